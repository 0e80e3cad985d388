/-! AIR: wind, wet, fire, seed, fresh, layer, lived -/
theorem okA_set {n j : Nat} {y : Int64} {W : Nat → Int64} (h : okA n W) (hj : 17 ≤ j) (h22 : j = 22 → 0 ≤ y.toInt ∧ y.toInt ≤ 9) (h23 : j = 23 → 0 ≤ y.toInt ∧ y.toInt ≤ 7) (h24 : j = 24 → 0 ≤ y.toInt ∧ y.toInt ≤ 9) (h25 : j = 25 → y.toInt = 0 ∨ y.toInt = 1) (h26 : j = 26 → 0 ≤ y.toInt ∧ y.toInt ≤ 8) (h27 : j = 27 → 0 ≤ y.toInt ∧ y.toInt ≤ 8) (h28 : j = 28 → 0 ≤ y.toInt ∧ y.toInt < 2147483648) : okA n (fun i => if i = j then y else W i) := by
  obtain ⟨o1, o2, o3, o4, o5, o6, o7, o8, o9, o10⟩ := h
  refine ⟨fun k hk => ?_, ?_, ?_, ?_, ?_, ?_, ?_, ?_, ?_, ?_⟩
  · simp only []; rw [if_neg (by omega)]; exact o1 k hk
  · unfold hSum at o2 ⊢
    simp only []
    rw [if_neg (by omega), if_neg (by omega), if_neg (by omega), if_neg (by omega), if_neg (by omega), if_neg (by omega), if_neg (by omega), if_neg (by omega), if_neg (by omega)]; exact o2
  · simp only []; rw [if_neg (by omega)]; exact o3
  · simp only []; by_cases c : 22 = j
    · rw [if_pos c]; exact h22 c.symm
    · rw [if_neg c]; exact o4
  · simp only []; by_cases c : 23 = j
    · rw [if_pos c]; exact h23 c.symm
    · rw [if_neg c]; exact o5
  · simp only []; by_cases c : 24 = j
    · rw [if_pos c]; exact h24 c.symm
    · rw [if_neg c]; exact o6
  · simp only []; by_cases c : 25 = j
    · rw [if_pos c]; exact h25 c.symm
    · rw [if_neg c]; exact o7
  · simp only []; by_cases c : 26 = j
    · rw [if_pos c]; exact h26 c.symm
    · rw [if_neg c]; exact o8
  · simp only []; by_cases c : 27 = j
    · rw [if_pos c]; exact h27 c.symm
    · rw [if_neg c]; exact o9
  · simp only []; by_cases c : 28 = j
    · rw [if_pos c]; exact h28 c.symm
    · rw [if_neg c]; exact o10
theorem aC_le : ∀ i, i < 29 → aC i ≤ 3 := by decide
/-- an int's place of the air, and of the reference's row -/
theorem pNow_int {n j : Nat} {s : hS} {x : Int32} (h : pNow n s) (hj : 17 ≤ j ∧ j < 29) (hl : aL j = false) (ok : okA n (fun i => rL s 146 i) → okA n (fun i => if i = j then x.toInt64 else rL s 146 i)) : pNow n (sL (sI s (92 + aC j) (aK j) x) 146 j x.toInt64) := by
  refine pNow_set (j := j) (y := x.toInt64) h (by omega) (fun i hi => ?_) (fun i hi => ?_) ok
  · have e1 : cA 92 (sL (sI s (92 + aC j) (aK j) x) 146 j x.toInt64) i = cA 92 (sI s (92 + aC j) (aK j) x) i :=
      cA_fr (W := fun c _ => c = 146) ((Fr.rf (fun c _ => c = 146) _).sL rfl) (by have := aC_le i hi; omega)
    rw [e1, cA_I hi (by omega) hl]
  · rw [r_LL, r_LI]
    by_cases hh : i = j
    · rw [if_pos ⟨rfl, hh⟩, if_pos hh]
    · rw [if_neg (fun z => hh z.2), if_neg hh]
section
variable {d : Nat} {v : hV} {s s1 : hS}
theorem th_fire {n : Nat} (h : pNow n s) (x : Int32) : prI fA0 v (d + 1) 61 181 [.int x] s (fun s2 => pNow n s2) := by
  have el0 : Int64.toInt 0 = 0 := rfl
  have el9 : Int64.toInt 9 = 9 := rfl
  have O : ∀ K : Int32 → hS → Prop, ¬ (0 ≤ x.toInt ∧ x.toInt ≤ 9) → K (-1000000002) s → pcI (d + 1) 181 [.ref 145, .int x] v s K := fun K hx hK => st_M_fire (sp_in (fun _ => hK) (fun z => absurd z hx))
  refine st_S_fire ⟨fun c => ⟨Fr.rf _ _, O _ (by omega) ⟨rfl, Fr.rf _ _, h⟩⟩, fun c => ⟨fun c4 => ⟨Fr.rf _ _, O _ (by omega) ⟨rfl, Fr.rf _ _, h⟩⟩, fun c4 => ?_⟩⟩
  have hold : (rI s 92 9).toInt64 = rL s 146 22 := pNow_at h (i := 22) (by decide)
  refine ⟨(Fr.rf _ s).sI (Or.inl ⟨by decide, by decide⟩), st_M_fire (sp_in (fun z => absurd (by rw [el0, el9]; omega) z) (fun _ => ⟨?_, (Fr.rf _ _).sL (Or.inr (Or.inl ⟨rfl, by decide⟩)), ?_⟩))⟩
  · rw [r_LI, ← hold]; exact i_64_32 _
  · exact pNow_int (j := 22) h (by decide) rfl (fun ok => okA_set ok (by decide) (fun _ => by rw [i_64]; omega) (by omega) (by omega) (by omega) (by omega) (by omega) (by omega))
theorem th_wet {n : Nat} (h : pNow n s) (x : Int32) (hx : x = 0 ∨ x = 1) : prI fA0 v (d + 1) 60 180 [.int x] s (fun s2 => pNow n s2) := by
  have hold : (rI s 92 12).toInt64 = rL s 146 25 := pNow_at h (i := 25) (by decide)
  have hw := (pNow_ok h).2.2.2.2.2.2.1
  have hw : (rL s 146 25).toInt = 0 ∨ (rL s 146 25).toInt = 1 := hw
  rw [← hold, i_64] at hw
  have hxi : x.toInt = 0 ∨ x.toInt = 1 := by rcases hx with rfl | rfl; exact Or.inl rfl; exact Or.inr rfl
  have Z : ∀ y : Int32, y = rI s 92 12 → (Fr fA0 s (sI s 92 12 x) ∧ pcI (d + 1) 180 [.ref 145, .int x] v (sI s 92 12 x) (fun x2 s2 => x2 = y ∧ Fr fA0 (sI s 92 12 x) s2 ∧ pNow n s2)) := by
    intro y hy
    refine ⟨(Fr.rf _ s).sI (Or.inl ⟨by decide, by decide⟩), st_M_wet ?_⟩
    have G : ∀ w : Int32, w = x → (fun w1 s1 => (rL (sI s 92 12 x) 146 25).toInt32 = y ∧ Fr fA0 (sI s 92 12 x) (sL s1 146 25 w1.toInt64) ∧ pNow n (sL s1 146 25 w1.toInt64)) w (sI s 92 12 x) := by
      rintro w rfl
      refine ⟨?_, (Fr.rf _ _).sL (Or.inr (Or.inl ⟨rfl, by decide⟩)), ?_⟩
      · rw [r_LI, ← hold, hy]; exact i_64_32 _
      · exact pNow_int (j := 25) h (by decide) rfl (fun ok => okA_set ok (by decide) (by omega) (by omega) (by omega) (fun _ => by rw [i_64]; exact hxi) (by omega) (by omega) (by omega))
    rcases hx with rfl | rfl
    · exact st_M_one ⟨fun _ => G 0 rfl, fun z => absurd rfl z⟩
    · exact st_M_one ⟨fun z => absurd z (by decide), fun _ => G 1 rfl⟩
  exact st_S_wet ⟨fun c => ⟨hxi, Z 0 (i_inj (by rw [c]; rfl))⟩, fun c => ⟨hxi, Z 1 (i_inj (by show (1 : Int) = _; omega))⟩⟩
theorem th_seed {n : Nat} (h : pNow n s) (x : Int32) : prI fA0 v (d + 1) 147 241 [.int x] s (fun s2 => pNow n s2) := by
  have hold : rL s 92 13 = rL s 146 28 := pNow_at h (i := 28) (by decide)
  refine st_S_seed ⟨fun c => ⟨Fr.rf _ _, st_M_seed ⟨fun _ => ⟨rfl, Fr.rf _ _, h⟩, fun z => absurd c z⟩⟩, fun c => ⟨(Fr.rf _ s).sL (Or.inl ⟨by decide, by decide⟩), st_M_seed ⟨fun z => absurd z c, fun _ => ⟨?_, (Fr.rf _ _).sL (Or.inr (Or.inl ⟨rfl, by decide⟩)), ?_⟩⟩⟩⟩
  · rw [r_LL, if_neg (by decide), hold]
  · have hr := i_rng x
    refine pNow_set (j := 28) (y := x.toInt64) h (by decide) (fun i hi => ?_) (fun i hi => ?_) (fun ok => okA_set ok (by decide) (by omega) (by omega) (by omega) (by omega) (by omega) (by omega) (fun _ => by rw [i_64]; omega))
    · have e1 : cA 92 (sL (sL s 92 13 x.toInt64) 146 28 x.toInt64) i = cA 92 (sL s 92 13 x.toInt64) i :=
        cA_fr (W := fun c _ => c = 146) ((Fr.rf (fun c _ => c = 146) _).sL rfl) (by have := aC_le i hi; omega)
      rw [e1]
      exact cA_L (j := 28) hi (by decide) rfl s x.toInt64
    · rw [r_LL, r_LL]
      by_cases hh : i = 28
      · rw [if_pos ⟨rfl, hh⟩, if_pos hh]
      · rw [if_neg (fun z => hh z.2), if_neg (by omega), if_neg hh]
theorem th_wind {n : Nat} (h : pNow n s) (a w : Int32) : prI fA0 v (d + 1) 58 179 [.int a, .int w] s (fun s2 => pNow n s2) := by
  have el0 : Int64.toInt 0 = 0 := rfl
  have el7 : Int64.toInt 7 = 7 := rfl
  have el9 : Int64.toInt 9 = 9 := rfl
  have O : ∀ K : Int32 → hS → Prop, ¬ ((0 ≤ a.toInt ∧ a.toInt ≤ 7) ∧ (0 ≤ w.toInt ∧ w.toInt ≤ 9)) → K (-1000000002) s → pcI (d + 1) 179 [.ref 145, .int a, .int w] v s K := fun K hx hK => st_M_wind (sp_in (fun _ => hK) (fun z => sp_in (fun _ => hK) (fun z2 => absurd ⟨z, z2⟩ hx)))
  have B : ∀ {A : Prop}, ¬ ((0 ≤ a.toInt ∧ a.toInt ≤ 7) ∧ (0 ≤ w.toInt ∧ w.toInt ≤ 9)) → (∀ x : Int32, ¬ x.toInt = 0 → (x.toInt = 0 → A) ∧ (¬ x.toInt = 0 → (Fr fA0 s s ∧ pcI (d + 1) 179 [.ref 145, .int a, .int w] v s (fun x2 s2 => x2 = -1000000002 ∧ Fr fA0 s s2 ∧ pNow n s2)))) := fun hn x hx0 => ⟨fun z => absurd z hx0, fun _ => ⟨Fr.rf _ _, O _ hn ⟨rfl, Fr.rf _ _, h⟩⟩⟩
  refine st_S_wind (st_S_isNoWind ⟨fun c => B (by omega) 1 (by decide), fun c => ⟨fun c2 => ⟨fun c3 => B (by omega) 1 (by decide), fun c3 => ⟨fun c4 => B (by omega) 1 (by decide), fun c4 => ⟨fun _ => ?_, fun z => absurd rfl z⟩⟩⟩, fun c2 => B (by omega) 1 (by decide)⟩⟩)
  have hold : (rI s 92 11).toInt64 = rL s 146 24 := pNow_at h (i := 24) (by decide)
  refine ⟨((Fr.rf _ s).sI (Or.inl ⟨by decide, by decide⟩)).sI (Or.inl ⟨by decide, by decide⟩), st_M_wind (sp_in (fun z => absurd (by rw [el0, el7]; omega) z) (fun _ => sp_in (fun z => absurd (by rw [el0, el9]; omega) z) (fun _ => ⟨?_, ((Fr.rf _ _).sL (Or.inr (Or.inl ⟨rfl, by decide⟩))).sL (Or.inr (Or.inl ⟨rfl, by decide⟩)), ?_⟩)))⟩
  · rw [r_LI, r_LI, ← hold]; exact i_64_32 _
  · have h1 := pNow_int (j := 23) (x := a) h (by decide) rfl (fun ok => okA_set ok (by decide) (by omega) (fun _ => by rw [i_64]; omega) (by omega) (by omega) (by omega) (by omega) (by omega))
    exact pNow_int (j := 24) (x := w) h1 (by decide) rfl (fun ok => okA_set ok (by decide) (by omega) (by omega) (fun _ => by rw [i_64]; omega) (by omega) (by omega) (by omega) (by omega))
/-- all of it 0 but what stays when it is FRESH -/
theorem frZ_cA {a : Nat} (h : frZ a s) : ∀ i, i < 22 → cA a s i = 0 := by
  intro i hi
  obtain ⟨h1, h2, h3⟩ := h
  have p1 : ∀ i, i < 8 → aL i = true ∧ aC i = 1 ∧ aK i = i := by decide
  have p2 : ∀ i, i < 8 → aL (8 + i) = true ∧ aC (8 + i) = 2 ∧ aK (8 + i) = i := by decide
  have p4 : ∀ i, i < 5 → aL (17 + i) = true ∧ aC (17 + i) = 0 ∧ aK (17 + i) = i + 2 := by decide
  unfold cA
  by_cases c1 : i < 8
  · obtain ⟨a1, a2, a3⟩ := p1 i c1
    rw [a1, a2, a3, if_pos rfl]; exact (h1 i c1).1
  · by_cases c2 : i < 16
    · obtain ⟨a1, a2, a3⟩ := p2 (i - 8) (by omega)
      rw [show 8 + (i - 8) = i by omega] at a1 a2 a3
      rw [a1, a2, a3, if_pos rfl]; exact (h1 (i - 8) (by omega)).2
    · by_cases c3 : i = 16
      · subst c3
        have e : aL 16 = false := rfl
        rw [e, if_neg (by decide)]
        show (rI s (a + 0) 7).toInt64 = 0
        rw [Nat.add_zero, h3]; rfl
      · obtain ⟨a1, a2, a3⟩ := p4 (i - 17) (by omega)
        rw [show 17 + (i - 17) = i by omega] at a1 a2 a3
        rw [a1, a2, a3, if_pos rfl, Nat.add_zero]; exact h2 _ (by omega) (by omega)
/-- made FRESH in both, the rest as before -/
theorem pNow_fresh {n : Nat} {s2 : hS} (h : pNow n s) (h1 : frZ 92 s2) (h2 : ∀ k, k < 22 → rL s2 146 k = 0) (h3 : ∀ i, 22 ≤ i → i < 29 → cA 92 s2 i = cA 92 s i ∧ rL s2 146 i = rL s 146 i) : pNow n s2 := by
  refine pNow_mk (fun i hi => ?_) ?_
  · by_cases c : i < 22
    · rw [frZ_cA h1 i c, h2 i c]
    · rw [(h3 i (by omega) hi).1, (h3 i (by omega) hi).2, pNow_at h hi]
  · obtain ⟨o1, o2, o3, o4, o5, o6, o7, o8, o9, o10⟩ := pNow_ok h
    have e0 : Int64.toInt 0 = 0 := rfl
    refine ⟨fun k hk => ?_, ?_, ?_, ?_, ?_, ?_, ?_, ?_, ?_, ?_⟩
    · simp only []; rw [h2 _ (by omega)]; decide
    · unfold hSum; simp only []; rw [h2 8 (by decide), h2 9 (by decide), h2 10 (by decide), h2 11 (by decide), h2 12 (by decide), h2 13 (by decide), h2 14 (by decide), h2 15 (by decide), h2 16 (by decide)]; decide
    · simp only []; rw [h2 16 (by decide), e0]; omega
    · simp only []; rw [(h3 22 (by decide) (by decide)).2]; exact o4
    · simp only []; rw [(h3 23 (by decide) (by decide)).2]; exact o5
    · simp only []; rw [(h3 24 (by decide) (by decide)).2]; exact o6
    · simp only []; rw [(h3 25 (by decide) (by decide)).2]; exact o7
    · simp only []; rw [(h3 26 (by decide) (by decide)).2]; exact o8
    · simp only []; rw [(h3 27 (by decide) (by decide)).2]; exact o9
    · simp only []; rw [(h3 28 (by decide) (by decide)).2]; exact o10
theorem aCK_fr : ∀ i, 22 ≤ i → i < 29 → ¬ (aC i = 1 ∨ aC i = 2 ∨ (aC i = 0 ∧ 2 ≤ aK i ∧ aK i ≤ 7)) := by
  have : ∀ i, i < 29 → 22 ≤ i → ¬ (aC i = 1 ∨ aC i = 2 ∨ (aC i = 0 ∧ 2 ≤ aK i ∧ aK i ≤ 7)) := by decide
  exact fun i h1 h2 => this i h2 h1
theorem th_fresh {n : Nat} (h : pNow n s) : prI fA0 v (d + 1) 79 193 [] s (fun s2 => pNow n s2) := by
  have hold : (rI s 92 7).toInt64 = rL s 146 16 := pNow_at h (i := 16) (by decide)
  refine st_S_fresh (sp_airFreshen (Or.inl rfl) (fun s2 hf hz => ⟨hf.mo (fun c k z => by unfold fFr at z; unfold fA0; omega), st_M_fresh (sm_freshen (x := 0) (by decide) (fun s3 hf3 h3 => ⟨?_, hf3.mo (fun c k z => by unfold fA0; omega), ?_⟩))⟩))
  · rw [hf.l (by unfold fFr; omega), ← hold]; exact i_64_32 _
  · have lo : ∀ c k, c < 145 → rI s3 c k = rI s2 c k ∧ rL s3 c k = rL s2 c k := fun c k hc => hf3 c k (by omega)
    refine pNow_fresh h ⟨fun k hk => ?_, fun k k1 k2 => ?_, ?_⟩ (fun k hk => by have := h3 k hk; rw [Nat.zero_add] at this; exact this) (fun i h22 hi => ⟨?_, ?_⟩)
    · rw [(lo _ _ (by decide)).2, (lo _ _ (by decide)).2]; exact hz.1 k hk
    · rw [(lo _ _ (by decide)).2]; exact hz.2.1 k k1 k2
    · rw [(lo _ _ (by decide)).1]; exact hz.2.2
    · have hn := aCK_fr i h22 hi
      have := aC_le i hi
      rw [cA_fr hf3 (by omega), cA_fr hf (by unfold fFr; omega)]
    · rw [hf3.l (by omega), hf.l (by unfold fFr; omega)]
theorem th_layer {n : Nat} (h : pNow n s) (k w : Int32) : prL fA0 v (d + 2) 80 194 [.int k, .int w] s (fun s2 => s2 = s) := by
  have el0 : Int64.toInt 0 = 0 := rfl
  have el7 : Int64.toInt 7 = 7 := rfl
  have e8 : Int32.toInt 8 = 8 := rfl
  have hold1 : ∀ i, i < 8 → rL s 93 i = rL s 146 i := fun i hi => by
    have h0 := pNow_at h (i := i) (by omega)
    have : ∀ i, i < 8 → aL i = true ∧ aC i = 1 ∧ aK i = i := by decide
    obtain ⟨a1, a2, a3⟩ := this i hi
    rw [← h0]; unfold cA; rw [a1, a2, a3, if_pos rfl]
  have hold2 : ∀ i, i < 8 → rL s 94 i = rL s 146 (8 + i) := fun i hi => by
    have h0 := pNow_at h (i := 8 + i) (by omega)
    have : ∀ i, i < 8 → aL (8 + i) = true ∧ aC (8 + i) = 2 ∧ aK (8 + i) = i := by decide
    obtain ⟨a1, a2, a3⟩ := this i hi
    rw [← h0]; unfold cA; rw [a1, a2, a3, if_pos rfl]
  have M1 : ∀ K : Int64 → hS → Prop, (¬ (0 ≤ k.toInt ∧ k.toInt ≤ 7) → K (-1000000001) s) → ((0 ≤ k.toInt ∧ k.toInt ≤ 7) → w.toInt = 0 → K (rL s 146 k.toInt.toNat) s) → ((0 ≤ k.toInt ∧ k.toInt ≤ 7) → w.toInt = 1 → K (rL s 146 (8 + k.toInt.toNat)) s) → ((0 ≤ k.toInt ∧ k.toInt ≤ 7) → w.toInt = 2 → K (rL s 146 (8 + k.toInt.toNat) / 20) s) → ((0 ≤ k.toInt ∧ k.toInt ≤ 7) → ¬ (0 ≤ w.toInt ∧ w.toInt ≤ 2) → K (-1000000002) s) → pcL (d + 2) 194 [.ref 145, .int k, .int w] v s K := by
    intro K a0 a1 a2 a3 a4
    refine st_M_layer (sp_in (fun c => a0 c) (fun c => ?_))
    rw [el0, el7] at c
    have e2 : (8 + k).toInt = 8 + k.toInt := by rw [i_add (by rw [e8]; omega), e8]
    have e3 : (8 + k).toInt.toNat = 8 + k.toInt.toNat := by rw [e2]; omega
    rw [e3]
    refine ⟨fun c0 => ⟨by omega, a1 c c0⟩, fun c0 => ⟨fun c1 => ⟨by omega, a2 c c1⟩, fun c1 => ⟨fun c2 => st_M_warmth ?_, fun c2 => a4 c (by omega)⟩⟩⟩
    have e4 : (0 + 8 + k : Int32) = 8 + k := by
      have : (0 + 8 : Int32) = 8 := by decide
      rw [this]
    rw [e4, e3]
    exact ⟨by omega, a3 c c2⟩
  have F : ∀ (y : Int64), (∀ K : Int64 → hS → Prop, K y s → pcL (d + 2) 194 [.ref 145, .int k, .int w] v s K) → (Fr fA0 s s ∧ pcL (d + 2) 194 [.ref 145, .int k, .int w] v s (fun x2 s2 => x2 = y ∧ Fr fA0 s s2 ∧ s2 = s)) := fun y hy => ⟨Fr.rf _ _, hy _ ⟨rfl, Fr.rf _ _, rfl⟩⟩
  refine st_S_layer ⟨fun c => F _ (fun K hK => M1 K (fun _ => hK) (by omega) (by omega) (by omega) (by omega)), fun c => ⟨fun c2 => ⟨fun c3 => ⟨by omega, F _ (fun K hK => M1 K (by omega) (fun _ _ => ?_) (by omega) (by omega) (by omega))⟩, fun c3 => ⟨by omega, F _ (fun K hK => M1 K (by omega) (by omega) (fun _ _ => ?_) (by omega) (by omega))⟩, fun c3 => st_Air_warmth (Or.inl rfl) ⟨by omega, F _ (fun K hK => M1 K (by omega) (by omega) (by omega) (fun _ _ => ?_) (by omega))⟩, fun c3 => F _ (fun K hK => M1 K (by omega) (by omega) (by omega) (by omega) (fun _ _ => hK))⟩, fun c2 => F _ (fun K hK => M1 K (fun _ => hK) (by omega) (by omega) (by omega) (by omega))⟩⟩
  · rw [← hold1 _ (by omega)]; exact hK
  · rw [← hold2 _ (by omega)]; exact hK
  · rw [← hold2 _ (by omega)]; exact hK
/-! lived -/
def pV (s : hS) : Prop := ∀ k, k < 4 → rI s 103 k = rI s 157 k
def fV (c _k : Nat) : Prop := c = 103 ∨ c = 157
theorem th_lived (h : pV s) (x : Int32) : prI fV v (d + 1) 98 202 [.int x] s (fun s2 => s2 = s) := by
  have el0 : Int64.toInt 0 = 0 := rfl
  have el3 : Int64.toInt 3 = 3 := rfl
  have O : ∀ K : Int32 → hS → Prop, ¬ (0 ≤ x.toInt ∧ x.toInt ≤ 3) → K (-1000000002) s → pcI (d + 1) 202 [.ref 145, .int x] v s K := fun K hx hK => st_M_lived (sp_in (fun _ => hK) (fun z => absurd z hx))
  refine st_S_lived ⟨fun c => ⟨Fr.rf _ _, O _ (by omega) ⟨rfl, Fr.rf _ _, rfl⟩⟩, fun c => ⟨fun c4 => ⟨by omega, Fr.rf _ _, st_M_lived (sp_in (fun z => absurd (by rw [el0, el3]; omega) z) (fun _ => ⟨by omega, (h _ (by omega)).symm, Fr.rf _ _, rfl⟩))⟩, fun c4 => ⟨Fr.rf _ _, O _ (by omega) ⟨rfl, Fr.rf _ _, rfl⟩⟩⟩⟩
end
