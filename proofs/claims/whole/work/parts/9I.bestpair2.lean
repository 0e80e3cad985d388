/-! THE BEST SET: the pair, with what was asked last -/
section
variable {d : Nat} {v : hV} {s s1 : hS}
def tcV (v : hV) (s : hS) (k : Nat) : Int := (rI s (vT v + 1) k).toInt
/-- what is kept of the best set -/
def pB (v : hV) (s : hS) : Prop := (0 ≤ (rL s 99 13).toInt ∧ (rL s 99 13).toInt < 2147483648) ∧ ((rI s 98 5).toInt = 0 ∨ ∃ (n : Nat) (w l : Int) (wa st we : Int64) (F x y : Int), envB n wa st we ∧ triB n w l wa st we s ∧ bRes (tcV v s) n w l wa st we F x y ∧ ansB F x y s)
theorem ansB_fr {F : Nat → Nat → Prop} {A x y : Int} (h : ansB A x y s) (hf : Fr F s s1) (hw : ∀ k, ¬ F 98 k) : ansB A x y s1 := by
  unfold ansB at *
  rw [hf.i (hw 1), hf.i (hw 2), hf.i (hw 3), hf.i (hw 4)]; exact h
theorem pB_fr {F : Nat → Nat → Prop} (h : pB v s) (hf : Fr F s s1) (hw : ∀ c k, 98 ≤ c → c ≤ 102 → ¬ F c k) (ht : ∀ k, ¬ F (vT v + 1) k) : pB v s1 := by
  have et : tcV v s1 = tcV v s := by funext k; unfold tcV; rw [hf.i (ht k)]
  obtain ⟨h1, h2⟩ := h
  refine ⟨by rw [hf.l (hw 99 13 (by decide) (by decide))]; exact h1, ?_⟩
  rcases h2 with h2 | ⟨n, w, l, wa, st, we, A, x, y, a1, a2, a3, a4⟩
  · exact Or.inl (by rw [hf.i (hw 98 5 (by decide) (by decide))]; exact h2)
  · exact Or.inr ⟨n, w, l, wa, st, we, A, x, y, a1, triB_fr a2 hf (fun k _ => hw _ _ (by decide) (by decide)) (fun k _ => hw _ _ (by decide) (by decide)), by rw [et]; exact a3, ansB_fr a4 hf (fun k => hw _ _ (by decide) (by decide))⟩
def fBe (c k : Nat) : Prop := (98 ≤ c ∧ c ≤ 102) ∨ fBm c k
theorem th_best {m : Nat} (h : pNow m s) (hv : kT (vT v)) (hT : pT v s) (hLT : pLT s) (hB : pB v s) (x1 x2 x3 x4 : Int32) : prI fBe v (d + 8) 82 196 [.int x1, .int x2, .int x3, .int x4] s (pB v) := by
  obtain ⟨D, t1, t2, _⟩ := hT
  have hvv : 51 ≤ vT v ∧ vT v ≤ 66 := by unfold kT at hv; omega
  have ok : okT (tcV v s) := fun k hk => by unfold tcV; rw [(t2 k hk).1]; exact t1.1 k hk
  have kC : tvC (vT v) s (tcV v s) := fun k _ => rfl
  have kM : tvM s (tcV v s) := fun k hk => by unfold tcV; rw [(t2 k hk).1, (t2 k hk).2]
  have el0 : Int64.toInt 0 = 0 := rfl
  have el1 : Int64.toInt 1 = 1 := rfl
  have el3 : Int64.toInt 3 = 3 := rfl
  have el8 : Int64.toInt 8 = 8 := rfl
  have el60 : Int64.toInt 60 = 60 := rfl
  have el99 : Int64.toInt 9999 = 9999 := rfl
  have O : ¬ ((1 ≤ x1.toInt ∧ x1.toInt ≤ 60) ∧ (0 ≤ x2.toInt ∧ x2.toInt ≤ 9999) ∧ (0 ≤ x3.toInt ∧ x3.toInt ≤ 8) ∧ (0 ≤ x4.toInt ∧ x4.toInt ≤ 3)) → (Fr fBe s s ∧ pcI (d + 8) 196 [.ref 145, .int x1, .int x2, .int x3, .int x4] v s (fun y s2 => y = -1000000002 ∧ Fr fBe s s2 ∧ pB v s2)) := fun hno => by
    have Z : (fun (y : Int32) s2 => y = -1000000002 ∧ Fr fBe s s2 ∧ pB v s2) (-1000000002) s := ⟨rfl, Fr.rf _ _, hB⟩
    exact ⟨Fr.rf _ _, st_M_best (sp_in (fun _ => Z) (fun a => sp_in (fun _ => Z) (fun b => sp_in (fun _ => Z) (fun c => sp_in (fun _ => Z) (fun e => absurd ⟨a, b, c, e⟩ hno)))))⟩
  refine st_S_best hv ⟨fun c => O (by omega), fun c1 => ⟨fun c => O (by omega), fun c2 => ⟨fun c => O (by omega), fun c3 => ⟨fun c => O (by omega), fun c4 => ⟨fun c => O (by omega), fun c5 => ⟨fun c => O (by omega), fun c6 => ⟨fun c => O (by omega), fun c7 => ⟨fun c => O (by omega), fun c8 => ?_⟩⟩⟩⟩⟩⟩⟩⟩
  have hW := pNow_ok h
  obtain ⟨w1, w2, w3, w4, w5, w6, w7, w8, w9, w10⟩ := hW
  have a23 : (rI s 92 10).toInt64 = rL s 146 23 := pNow_at h (i := 23) (by decide)
  have a24 : (rI s 92 11).toInt64 = rL s 146 24 := pNow_at h (i := 24) (by decide)
  have a25 : (rI s 92 12).toInt64 = rL s 146 25 := pNow_at h (i := 25) (by decide)
  have w5 : 0 ≤ (rL s 146 23).toInt ∧ (rL s 146 23).toInt ≤ 7 := w5
  have w6 : 0 ≤ (rL s 146 24).toInt ∧ (rL s 146 24).toInt ≤ 9 := w6
  have w7 : (rL s 146 25).toInt = 0 ∨ (rL s 146 25).toInt = 1 := w7
  have w10 : 0 ≤ (rL s 146 28).toInt ∧ (rL s 146 28).toInt < 2147483648 := w10
  obtain ⟨n, hn, rfl⟩ := i_ex (x := x1) (n := 61) ⟨by omega, by omega⟩
  have en : (nI n).toInt = n := nI_toInt (by omega)
  have he : envB n (rL s 146 23) (rL s 146 24) (rL s 146 25) := ⟨by omega, w5, w6, w7⟩
  have hwet : (rI s 92 12).toInt = 0 ∨ (rI s 92 12).toInt = 1 := by rw [← a25, i_64] at w7; exact w7
  -- behind the class's search
  have TL : ∀ (s2 : hS) (F x y : Int), Fr (fun c _ => 98 ≤ c ∧ c ≤ 102) s s2 → bRes (tcV v s) n x2.toInt x3.toInt (rL s 146 23) (rL s 146 24) (rL s 146 25) F x y → ansB F x y s2 → pB v s2 → (x4.toInt = 0 → (Fr fBe s s2 ∧ pcI (d + 8) 196 [.ref 145, .int (nI n), .int x2, .int x3, .int x4] v s2 (fun y s3 => y = rI s2 98 1 ∧ Fr fBe s2 s3 ∧ pB v s3))) ∧ (x4.toInt = 1 → (Fr fBe s s2 ∧ pcI (d + 8) 196 [.ref 145, .int (nI n), .int x2, .int x3, .int x4] v s2 (fun y s3 => y = rI s2 98 2 ∧ Fr fBe s2 s3 ∧ pB v s3))) ∧ (x4.toInt = 2 → (Fr fBe s s2 ∧ pcI (d + 8) 196 [.ref 145, .int (nI n), .int x2, .int x3, .int x4] v s2 (fun y s3 => y = rI s2 98 3 ∧ Fr fBe s2 s3 ∧ pB v s3))) ∧ ((x4.toInt < 0 ∨ 2 < x4.toInt) → (Fr fBe s s2 ∧ pcI (d + 8) 196 [.ref 145, .int (nI n), .int x2, .int x3, .int x4] v s2 (fun y s3 => y = rI s2 98 4 ∧ Fr fBe s2 s3 ∧ pB v s3))) := by
    intro s2 F x y f2 hR hA hB2
    have F2 : Fr fBe s s2 := f2.mo (fun c k z => Or.inl z)
    have RUN : ∀ A : Int32, (∀ r : Int32, ((F = -1 → r.toInt = -1) ∧ (∀ f q : Nat, f ≤ 9 → q < 81 → F = f → x = q → (x4.toInt = 0 → r.toInt = f) ∧ (x4.toInt = 1 → r.toInt = (q / 9 : Nat)) ∧ (x4.toInt = 2 → r.toInt = (q % 9 : Nat)) ∧ (¬ x4.toInt = 0 → ¬ x4.toInt = 1 → ¬ x4.toInt = 2 → r.toInt = y))) → r = A) → pcI (d + 8) 196 [.ref 145, .int (nI n), .int x2, .int x3, .int x4] v s2 (fun y s3 => y = A ∧ Fr fBe s2 s3 ∧ pB v s3) := by
      intro A hA2
      refine st_M_best (sp_in (fun z => absurd (by rw [el1, el60, en]; omega) z) (fun _ => sp_in (fun z => absurd (by rw [el0, el99]; omega) z) (fun _ => sp_in (fun z => absurd (by rw [el0, el8]; omega) z) (fun _ => sp_in (fun z => absurd (by rw [el0, el3]; omega) z) (fun _ => ?_)))))
      refine sm_bestF (d := d + 3) (n := n) (w := x2.toInt) (l := x3.toInt) (wa := rL s 146 23) (st := rL s 146 24) (we := rL s 146 25) ok (tvM_fr kM f2 (fun k _ => by omega)) he ?_ rfl rfl (fun r s3 G x' y' f3 hR3 hm hq => ?_)
      · rw [f2.l (by omega), f2.l (by omega), f2.l (by omega), f2.l (by omega)]; exact ⟨rfl, rfl, rfl, w10⟩
      · obtain ⟨u1, u2, u3⟩ := bRes_un hR3 hR
        subst u1; subst u2; subst u3
        exact ⟨hA2 r ⟨hm, hq⟩, f3.mo (fun c k z => Or.inr z), pB_fr hB2 f3 (fun c k _ _ => by unfold fBm; omega) (fun k => by unfold fBm; omega)⟩
    rcases hA with ⟨A1, A2, A3, A4, A5, A6, A7⟩ | ⟨f, q, A1, A2, A3, A4, A5, A6, A7, A8, A9⟩
    · have M1 : ∀ A : Int32, A = -1 → ∀ r : Int32, ((F = -1 → r.toInt = -1) ∧ (∀ f q : Nat, f ≤ 9 → q < 81 → F = f → x = q → (x4.toInt = 0 → r.toInt = f) ∧ (x4.toInt = 1 → r.toInt = (q / 9 : Nat)) ∧ (x4.toInt = 2 → r.toInt = (q % 9 : Nat)) ∧ (¬ x4.toInt = 0 → ¬ x4.toInt = 1 → ¬ x4.toInt = 2 → r.toInt = y))) → r = A := fun A hA r hr => by
        rw [hA]; exact i_inj (hr.1 A1)
      exact ⟨fun _ => ⟨F2, RUN _ (M1 _ A4)⟩, fun _ => ⟨F2, RUN _ (M1 _ A5)⟩, fun _ => ⟨F2, RUN _ (M1 _ A6)⟩, fun _ => ⟨F2, RUN _ (M1 _ A7)⟩⟩
    · refine ⟨fun c => ⟨F2, RUN _ (fun r hr => i_inj ?_)⟩, fun c => ⟨F2, RUN _ (fun r hr => i_inj ?_)⟩, fun c => ⟨F2, RUN _ (fun r hr => i_inj ?_)⟩, fun c => ⟨F2, RUN _ (fun r hr => i_inj ?_)⟩⟩
      · rw [(hr.2 f q A1 A2 A3 A4).1 c, A6, nI_toInt (by omega)]
      · rw [(hr.2 f q A1 A2 A3 A4).2.1 c, A7, nI_toInt (by omega)]
      · rw [(hr.2 f q A1 A2 A3 A4).2.2.1 c, A8, nI_toInt (by omega)]
      · rw [(hr.2 f q A1 A2 A3 A4).2.2.2 (by omega) (by omega) (by omega), A9]
  -- sought anew
  have NEW : ∀ s0 : hS, s0 = s → pgV (d + 7) 83 52 [.ref 98, .ref (vT v), .ref 92, .int (nI n), .int x2, .int x3, .int 0] [] v (sI (sI (sI (sI (sI (sI (sI (sI (sI (sI (sI s0 98 5 1) 98 6 (nI n)) 98 7 x2) 98 8 x3) 99 10 (rI s0 92 10)) 99 11 (rI s0 92 11)) 99 12 (rI s0 92 12)) 98 1 (-1)) 98 2 (-1)) 98 3 (-1)) 98 4 (-1)) (fun s9 => (x4.toInt = 0 → (Fr fBe s s9 ∧ pcI (d + 8) 196 [.ref 145, .int (nI n), .int x2, .int x3, .int x4] v s9 (fun y s3 => y = rI s9 98 1 ∧ Fr fBe s9 s3 ∧ pB v s3))) ∧ (x4.toInt = 1 → (Fr fBe s s9 ∧ pcI (d + 8) 196 [.ref 145, .int (nI n), .int x2, .int x3, .int x4] v s9 (fun y s3 => y = rI s9 98 2 ∧ Fr fBe s9 s3 ∧ pB v s3))) ∧ (x4.toInt = 2 → (Fr fBe s s9 ∧ pcI (d + 8) 196 [.ref 145, .int (nI n), .int x2, .int x3, .int x4] v s9 (fun y s3 => y = rI s9 98 3 ∧ Fr fBe s9 s3 ∧ pB v s3))) ∧ ((x4.toInt < 0 ∨ 2 < x4.toInt) → (Fr fBe s s9 ∧ pcI (d + 8) 196 [.ref 145, .int (nI n), .int x2, .int x3, .int x4] v s9 (fun y s3 => y = rI s9 98 4 ∧ Fr fBe s9 s3 ∧ pB v s3)))) := by
    rintro s0 rfl
    generalize hs1 : sI (sI (sI (sI (sI (sI (sI (sI (sI (sI (sI s0 98 5 1) 98 6 (nI n)) 98 7 x2) 98 8 x3) 99 10 (rI s0 92 10)) 99 11 (rI s0 92 11)) 99 12 (rI s0 92 12)) 98 1 (-1)) 98 2 (-1)) 98 3 (-1)) 98 4 (-1) = s1
    have f1 : Fr (fun c _ => 98 ≤ c ∧ c ≤ 102) s0 s1 := by
      rw [← hs1]
      exact (((((((((((Fr.rf (fun c _ => 98 ≤ c ∧ c ≤ 102) s0).sI (by omega)).sI (by omega)).sI (by omega)).sI (by omega)).sI (by omega)).sI (by omega)).sI (by omega)).sI (by omega)).sI (by omega)).sI (by omega)).sI (by omega)
    have tb : triB n x2.toInt x3.toInt (rL s0 146 23) (rL s0 146 24) (rL s0 146 25) s1 := by
      rw [← hs1]
      unfold triB
      simp only [r_II, r_LL, r_LI, r_IL, r_IC, r_LC, r_ICL, r_LCI, Nat.reduceEqDiff, false_and, and_false, true_and, and_true, and_self, ↓reduceIte]
      exact ⟨a23, a24, a25, hB.1⟩
    have h0 : rI s1 98 1 = -1 ∧ rI s1 98 2 = -1 ∧ rI s1 98 3 = -1 ∧ rI s1 98 4 = -1 := by
      rw [← hs1]
      refine ⟨?_, ?_, ?_, ?_⟩
      all_goals simp only [r_II, r_LL, r_LI, r_IL, r_IC, r_LC, r_ICL, r_LCI, Nat.reduceEqDiff, false_and, and_false, true_and, and_true, and_self, ↓reduceIte]
    refine sp_fires hv (pLT_fr hLT f1 (fun k _ => by omega)) (tvC_fr kC f1 (fun k _ => by omega)) ok he (by omega) tb h0 rfl (fun s2 F x y f2 hR hA => ?_)
    have F2 : Fr (fun c _ => 98 ≤ c ∧ c ≤ 102) s0 s2 := f1.tr (f2.mo (fun c k z => by unfold fAt at z; omega))
    have et : tcV v s2 = tcV v s0 := by funext k; unfold tcV; rw [F2.i (by omega)]
    have t2 := triB_fr tb f2 (fun k _ => by unfold fAt; omega) (fun k _ => by unfold fAt; omega)
    exact TL s2 F x y F2 hR hA ⟨t2.2.2.2.1, Or.inr ⟨n, _, _, _, _, _, F, x, y, he, t2, by rw [et]; exact hR, hA⟩⟩
  refine st_Best_seek hv ⟨fun z => ⟨hwet, NEW s rfl⟩, fun z => st_Best_isAskedOf ?_⟩
  have D0 : (0 : Int) = 0 → ((rI s 92 12).toInt = 0 ∨ (rI s 92 12).toInt = 1) ∧ _ := fun _ => ⟨hwet, NEW s rfl⟩
  refine ⟨fun g1 => ⟨fun g2 => ⟨fun g3 => ⟨fun g4 => ⟨fun g5 => ⟨fun g6 => ⟨fun y => absurd y (by decide), fun _ => ?_⟩, fun _ => ⟨D0, fun y => absurd rfl y⟩⟩, fun _ => ⟨D0, fun y => absurd rfl y⟩⟩, fun _ => ⟨D0, fun y => absurd rfl y⟩⟩, fun _ => ⟨D0, fun y => absurd rfl y⟩⟩, fun _ => ⟨D0, fun y => absurd rfl y⟩⟩, fun _ => ⟨D0, fun y => absurd rfl y⟩⟩
  rcases hB.2 with hz | ⟨n', w', l', wa', st', we', F, x, y, b1, b2, b3, b4⟩
  · exact absurd hz z
  · obtain ⟨k1, k2, k3, k4, k5, k6, k7⟩ := b2
    have hn' : n' = n := by
      have hb1 := b1.1
      rw [k5, nI_toInt (by omega), en] at g1; omega
    have hwa : wa' = rL s 146 23 := by rw [← k1, ← a23]; congr 1; exact i_inj g4
    have hst : st' = rL s 146 24 := by rw [← k2, ← a24]; congr 1; exact i_inj g5
    have hwe : we' = rL s 146 25 := by rw [← k3, ← a25]; congr 1; exact i_inj g6
    have hw' : w' = x2.toInt := by rw [← k6]; exact g2
    have hl' : l' = x3.toInt := by rw [← k7]; exact g3
    subst hn' hwa hst hwe hw' hl'
    exact TL s F x y (Fr.rf _ _) b3 b4 hB
end
