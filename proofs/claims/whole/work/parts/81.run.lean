/-! run(): the pair -/
def itW (T : Nat → Int) (W : Nat → Int64) : Nat → Nat → Int64
  | 0 => W
  | k + 1 => mnW T (itW T W k)
theorem itW_ok {m : Int} {T : Nat → Int} {W : Nat → Int64} (h : okM m W) (ok : okT T) : ∀ k : Nat, m + k ≤ 100000000 → okM (m + k) (itW T W k) := by
  intro k
  induction k with
  | zero => intro _; rw [show m + ((0 : Nat) : Int) = m by omega]; exact h
  | succ k ih =>
    intro hk
    have := okM_mn (ih (by omega)) ok (by omega)
    rw [show m + ((k + 1 : Nat) : Int) = m + k + 1 by omega]; exact this
section
variable {d : Nat} {v : hV} {s s1 : hS} {n : Nat} {T : Nat → Int} {W U : Nat → Int64}
theorem pLT_fr {F : Nat → Nat → Prop} (h : pLT s) (hf : Fr F s s1) (hw : ∀ k, k < 8 → ¬ F 5 k) : pLT s1 := fun k hk => by rw [hf.i (hw k hk)]; exact h k hk
theorem th_run (h : pNow n s) (hn : n ≤ 1000) (hv : kT (vT v)) (hT : pT v s) (hL : pLT s) (x : Int32) : prI fA0 v (d + 5) 62 182 [.int x] s (fun s2 => pNow (n + 1) s2) := by
  obtain ⟨T, ok, k2, k3⟩ := pT_T hT
  have el1 : Int64.toInt 1 = 1 := rfl
  have el600 : Int64.toInt 600 = 600 := rfl
  have O : ¬ (1 ≤ x.toInt ∧ x.toInt ≤ 600) → (Fr fA0 s s ∧ pcI (d + 5) 182 [.ref 145, .int x] v s (fun x2 s2 => x2 = -1000000002 ∧ Fr fA0 s s2 ∧ pNow (n + 1) s2)) := fun hx => ⟨Fr.rf _ _, st_M_run (sp_in (fun _ => ⟨rfl, Fr.rf _ _, pNow_mono h⟩) (fun z => absurd z (by rw [el1, el600]; exact hx)))⟩
  refine st_S_run ⟨fun c => O (by omega), fun c => ⟨fun c2 => O (by omega), fun c2 => ?_⟩⟩
  have hN : x.toInt = (x.toInt.toNat : Nat) := by omega
  generalize hNN : x.toInt.toNat = N at *
  have hW := okA_M.mp (pNow_ok h)
  have it := fun k : Nat => fun hk : k ≤ 600 => itW_ok hW ok k (by omega)
  have hta : kT (vT v) := hv
  have LC : ∀ (j i : Nat) (s1 : hS) (K : Int32 → hS → Prop), i + j = N → Fr (fMin 92) s s1 → cVec 92 s1 (itW T (fun i => rL s 146 i) i) → (∀ s2, Fr (fMin 92) s s2 → cVec 92 s2 (itW T (fun i => rL s 146 i) N) → K (nI (lwW T (itW T (fun i => rL s 146 i) N))) s2) → pgI (d + 5) 62 10 [.ref 48, .int x, .int (nI i)] [] v s1 K := by
    intro j
    induction j with
    | zero =>
      intro i s1 K hi hf hc hK
      have hi : i = N := by omega
      subst hi
      have kt : tvC (vT v) s1 T := tvC_fr k2 hf (fun k _ => by unfold fMin; unfold kT at hv; omega)
      exact st_S_run_10 hv ⟨fun z => absurd z (by rw [nI_toInt (by omega)]; omega), fun _ => sp_low hv (Or.inl rfl) kt hc (hK s1 hf hc)⟩
    | succ j ih =>
      intro i s1 K hi hf hc hK
      have kt : tvC (vT v) s1 T := tvC_fr k2 hf (fun k _ => by unfold fMin; unfold kT at hv; omega)
      refine st_S_run_10 hv ⟨fun _ => sp_goMinute hv (Or.inl rfl) (pLT_fr hL hf (fun k _ => by unfold fMin; omega)) kt ok hc (okM_A (it i (by omega))) (by omega) (fun s2 f2 c2 => ?_), fun z => absurd (by rw [nI_toInt (by omega)]; omega) z⟩
      rw [nI_1]
      exact ih (i + 1) s2 K (by omega) (hf.tr f2) c2 hK
  refine LC N 0 s _ (by omega) (Fr.rf _ _) (pNow_c h) (fun s2 f2 c2 => ⟨f2.mo (fun c k z => by unfold fMin at z; unfold fA0; omega), st_M_run (sp_in (fun z => absurd (by rw [el1, el600]; omega) z) (fun _ => ?_))⟩)
  have m2 : mVec 0 s2 (fun i => rL s 146 i) := fun i hi => by rw [f2.l (by unfold fMin; omega), Nat.zero_add]
  have kt2 : tvM s2 T := tvM_fr k3 f2 (fun k _ => by unfold fMin; omega)
  have LM : ∀ (j i : Nat) (s1 : hS), i + j = N → Fr (fBl 0) s2 s1 → mVec 0 s1 (itW T (fun i => rL s 146 i) i) → pgI (d + 5) 182 10 [.ref 145, .int x, .int (nI i)] [] v s1 (fun x2 s3 => x2 = nI (lwW T (itW T (fun i => rL s 146 i) N)) ∧ Fr fA0 s2 s3 ∧ pNow (n + 1) s3) := by
    intro j
    induction j with
    | zero =>
      intro i s1 hi hf hm
      have hi : i = N := by omega
      subst hi
      have kt : tvM s1 T := tvM_fr kt2 hf (fun k _ => by unfold fBl fMn; omega)
      refine st_M_run_10 ⟨fun z => absurd z (by rw [nI_toInt (by omega)]; omega), fun _ => sm_low (X := 0) (by decide) kt hm ⟨rfl, hf.mo (fun c k z => by unfold fBl fMn at z; unfold fA0; omega), ?_⟩⟩
      refine pNow_mk (fun i hi => ?_) (okA_congr (W := itW T (fun i => rL s 146 i) i) (okA_M.mpr ?_) (fun i hi => ?_))
      · rw [cA_fr hf (by have := aC_le i hi; unfold fBl fMn; omega), c2 i hi]
        have := hm i hi
        rw [Nat.zero_add] at this; rw [this]
      · obtain ⟨q1, q2, q3, q4⟩ := it i (by omega)
        exact ⟨q1, q2, ⟨q3.1, by omega⟩, q4⟩
      · have := hm i hi
        rw [Nat.zero_add] at this; exact this
    | succ j ih =>
      intro i s1 hi hf hm
      have kt : tvM s1 T := tvM_fr kt2 hf (fun k _ => by unfold fBl fMn; omega)
      refine st_M_run_10 ⟨fun _ => sm_minute (X := 0) (by decide) kt ok hm (okM_A (it i (by omega))) (fun s3 f3 m3 => ?_), fun z => absurd (by rw [nI_toInt (by omega)]; omega) z⟩
      rw [nI_1]
      exact ih (i + 1) s3 (by omega) (hf.tr f3) m3
  exact LM N 0 s2 (by omega) (Fr.rf _ _) m2
end
