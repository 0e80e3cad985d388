/-! AIR: count(): the pair -/
section
variable {d : Nat} {v : hV} {s s1 : hS} {n : Nat} {W : Nat → Int64} {T : Nat → Int}
theorem pNow_c {n : Nat} {s : hS} (h : pNow n s) : cVec 92 s (fun i => rL s 146 i) := fun _ hi => pNow_at h hi
theorem pNow_m {n : Nat} {s : hS} : mVec 0 s (fun i => rL s 146 i) := fun i _ => by rw [Nat.zero_add]
theorem pT_T {v : hV} {s : hS} (h : pT v s) : ∃ T, okT T ∧ tvC (vT v) s T ∧ tvM s T := by
  obtain ⟨D, h1, h2, _⟩ := h
  exact ⟨D.1, h1.1, fun k hk => (h2 k hk).1, fun k hk => (h2 k hk).2⟩
theorem sm_count {x : Int32} (ho : okA n (fun i => rL s 146 i)) (hT : tvM s T) {K : Int64 → hS → Prop} (a0 : x.toInt = 0 → K (rL s 146 16) s) (a1 : x.toInt = 1 → ∀ r : Int64, r.toInt = drW T (fun i => rL s 146 i) → K r s) (a2 : x.toInt = 2 → ∀ r : Int64, r.toInt = lfW (fun i => rL s 146 i) → K r s) (a3 : x.toInt = 3 → ∀ r : Int64, r.toInt = opI T (fun i => rL s 146 i) → K r s) (a4 : x.toInt = 4 → K (nI (lwW T (fun i => rL s 146 i))).toInt64 s) (a5 : 5 ≤ x.toInt → x.toInt ≤ 15 → K (rL s 146 (12 + x.toInt.toNat)) s) (a6 : x.toInt = 16 → K (rI s 145 8).toInt64 s) (a7 : x.toInt < 0 ∨ 16 < x.toInt → K (-1000000002) s) : pcL (d + 3) 195 [.ref 145, .int x] v s K := by
  have el5 : Int64.toInt 5 = 5 := rfl
  have el15 : Int64.toInt 15 = 15 := rfl
  have e17 : Int32.toInt 17 = 17 := rfl
  have e5 : Int32.toInt 5 = 5 := rfl
  have hX : (0 : Nat) ≤ 96 := by decide
  have hm := pNow_m (n := n) (s := s)
  have Q : 5 ≤ x.toInt → x.toInt ≤ 15 → ∀ C : Prop, C → C := fun _ _ _ h => h
  have P : 5 ≤ x.toInt → x.toInt ≤ 15 → pcI (d + 2) 154 [.long x.toInt64, .long 5, .long 15] v s (fun w s => (w.toInt = 0 → K (-1000000002) s) ∧ (¬ w.toInt = 0 → (0 ≤ ((17 + x) - 5).toInt ∧ ((17 + x) - 5).toInt < 128) ∧ (K (rL s 146 ((17 + x) - 5).toInt.toNat) s))) := by
    intro g1 g2
    have q1 : (17 + x).toInt = 17 + x.toInt := by rw [i_add (by rw [e17]; omega), e17]
    have q2 : ((17 + x) - 5).toInt = 12 + x.toInt := by rw [i_sub (by rw [q1, e5]; omega), q1, e5]; omega
    refine sp_in (fun c => absurd (by rw [el5, el15]; omega) c) (fun _ => ⟨by omega, ?_⟩)
    rw [show ((17 + x) - 5).toInt.toNat = 12 + x.toInt.toNat by omega]
    exact a5 g1 g2
  refine st_M_count ⟨a0, fun c => sm_draw hX hT hm ho (a1 c), fun c => sm_lift hX hm ho (a2 c), fun c => sm_open hX hT hm (a3 c), fun c => sm_low hX hT hm (a4 c), ?_, ?_, ?_, ?_, ?_, ?_, ?_, ?_, ?_, ?_, ?_, a6, fun c => sp_in (fun _ => a7 c) (fun z => absurd z (by rw [el5, el15]; omega))⟩ <;> exact fun c => P (by omega) (by omega)
theorem th_count (h : pNow n s) (hv : kT (vT v)) (hT : pT v s) (hx : pX s) (hL : pLT s) (x : Int32) : prL fA0 v (d + 4) 81 195 [.int x] s (fun s2 => s2 = s) := by
  obtain ⟨T, k1, k2, k3⟩ := pT_T hT
  have ho := pNow_ok h
  have hc := pNow_c h
  obtain ⟨_, N, _, x1, x2, _⟩ := hx
  have R : ∀ y : Int64, pcL (d + 4) 195 [.ref 145, .int x] v s (fun x2 s2 => x2 = y ∧ Fr fA0 s s2 ∧ s2 = s) → Fr fA0 s s ∧ pcL (d + 4) 195 [.ref 145, .int x] v s (fun x2 s2 => x2 = y ∧ Fr fA0 s s2 ∧ s2 = s) := fun _ z => ⟨Fr.rf _ _, z⟩
  have A : ∀ (j : Nat) (y : Int64), (5 ≤ j ∧ j ≤ 15) → y = rL s 146 (12 + j) → x.toInt = j → Fr fA0 s s ∧ pcL (d + 4) 195 [.ref 145, .int x] v s (fun x2 s2 => x2 = y ∧ Fr fA0 s s2 ∧ s2 = s) := by
    intro j y hj hy c
    refine R _ (sm_count ho k3 (fun z => by omega) (fun z => by omega) (fun z => by omega) (fun z => by omega) (fun z => by omega) (fun _ _ => ⟨?_, Fr.rf _ _, rfl⟩) (fun z => by omega) (fun z => by omega))
    rw [hy, show x.toInt.toNat = j by omega]
  have wet1 : ¬ (rI s 92 12).toInt = 0 → (rI s 92 12).toInt = 1 := fun z => by
    have e : (rI s 92 12).toInt64 = rL s 146 25 := pNow_at h (i := 25) (by decide)
    have w : (rL s 146 25).toInt = 0 ∨ (rL s 146 25).toInt = 1 := ho.2.2.2.2.2.2.1
    rw [← e, i_64] at w; omega
  exact st_S_count hv ⟨fun c => R _ (sm_count ho k3 (fun _ => ⟨(pNow_at h (i := 16) (by decide)).symm, Fr.rf _ _, rfl⟩) (fun z => by omega) (fun z => by omega) (fun z => by omega) (fun z => by omega) (fun z => by omega) (fun z => by omega) (fun z => by omega)),
    fun c => sp_draw hv (Or.inl rfl) hL k2 hc ho (fun r hr => R _ (sm_count ho k3 (fun z => by omega) (fun _ r2 hr2 => ⟨l_inj (by rw [hr2, i_64, hr]), Fr.rf _ _, rfl⟩) (fun z => by omega) (fun z => by omega) (fun z => by omega) (fun z => by omega) (fun z => by omega) (fun z => by omega))),
    fun c => sp_lift (Or.inl rfl) hL hc ho (fun r hr => R _ (sm_count ho k3 (fun z => by omega) (fun z => by omega) (fun _ r2 hr2 => ⟨l_inj (by rw [hr2, i_64, hr]), Fr.rf _ _, rfl⟩) (fun z => by omega) (fun z => by omega) (fun z => by omega) (fun z => by omega) (fun z => by omega))),
    fun c => sp_open hv (Or.inl rfl) k2 hc (fun r hr => R _ (sm_count ho k3 (fun z => by omega) (fun z => by omega) (fun z => by omega) (fun _ r2 hr2 => ⟨l_inj (by rw [hr2, i_64, hr]), Fr.rf _ _, rfl⟩) (fun z => by omega) (fun z => by omega) (fun z => by omega) (fun z => by omega))),
    fun c => sp_low hv (Or.inl rfl) k2 hc (R _ (sm_count ho k3 (fun z => by omega) (fun z => by omega) (fun z => by omega) (fun z => by omega) (fun _ => ⟨rfl, Fr.rf _ _, rfl⟩) (fun z => by omega) (fun z => by omega) (fun z => by omega))),
    A 5 _ (by decide) (pNow_at h (i := 17) (by decide)),
    A 6 _ (by decide) (pNow_at h (i := 18) (by decide)),
    A 7 _ (by decide) (pNow_at h (i := 19) (by decide)),
    A 8 _ (by decide) (pNow_at h (i := 20) (by decide)),
    A 9 _ (by decide) (pNow_at h (i := 21) (by decide)),
    A 10 _ (by decide) (pNow_at h (i := 22) (by decide)),
    A 11 _ (by decide) (pNow_at h (i := 23) (by decide)),
    A 12 _ (by decide) (pNow_at h (i := 24) (by decide)),
    fun c => ⟨fun c2 => A 13 _ (by decide) (by rw [← pNow_at h (i := 25) (by decide)]; exact l_inj ((i_64 _).trans c2).symm) c, fun c2 => A 13 _ (by decide) (by rw [← pNow_at h (i := 25) (by decide)]; exact l_inj ((i_64 _).trans (wet1 c2)).symm) c⟩,
    A 14 _ (by decide) (pNow_at h (i := 26) (by decide)),
    A 15 _ (by decide) (pNow_at h (i := 27) (by decide)),
    fun c => R _ (sm_count ho k3 (fun z => by omega) (fun z => by omega) (fun z => by omega) (fun z => by omega) (fun z => by omega) (fun z => by omega) (fun _ => ⟨by rw [x1, x2], Fr.rf _ _, rfl⟩) (fun z => by omega)),
    fun c => R _ (sm_count ho k3 (fun z => by omega) (fun z => by omega) (fun z => by omega) (fun z => by omega) (fun z => by omega) (fun z => by omega) (fun z => by omega) (fun _ => ⟨rfl, Fr.rf _ _, rfl⟩))⟩
end
