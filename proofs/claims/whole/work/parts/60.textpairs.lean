/-! TEXTS: rule(), feed(), fault(), told(), pole(), peg(): the pairs -/
def pU (s : hS) : Prop := ∃ R : Nat, R ≤ 4 ∧ rI s 48 6 = nI R ∧ rI s 145 18 = nI R ∧ ∀ i, i < R → ∃ X, rrOK X ∧ dU (133 + i) s X ∧ rM (6 * i) s X
def fU (c k : Nat) : Prop := (c = 49 ∧ 1 ≤ k) ∨ (133 ≤ c ∧ c ≤ 136) ∨ (c = 48 ∧ k = 6) ∨ c = 155 ∨ (c = 145 ∧ ((8 ≤ k ∧ k ≤ 14) ∨ k = 18))
def fX (c k : Nat) : Prop := (c = 49 ∧ 1 ≤ k) ∨ c = 50 ∨ c = 153 ∨ (c = 145 ∧ 8 ≤ k ∧ k ≤ 14)
section
variable {d : Nat} {v : hV} {s s1 : hS} {B : Nat → Int} {N : Nat}
theorem dU_fr {u : Nat} {X : rRow} {W : Nat → Nat → Prop} (h : dU u s X) (hf : Fr W s s1) (hw : ∀ k, ¬ W u k) : dU u s1 X := by
  obtain ⟨h1, h2, h3, h4, h5, h6⟩ := h
  exact ⟨by rw [hf.i (hw _)]; exact h1, by rw [hf.i (hw _)]; exact h2, by rw [hf.i (hw _)]; exact h3, by rw [hf.i (hw _)]; exact h4, by rw [hf.l (hw _)]; exact h5, by rw [hf.i (hw _)]; exact h6⟩
theorem rM_fr {o : Nat} {X : rRow} {W : Nat → Nat → Prop} (h : rM o s X) (hf : Fr W s s1) (hw : ∀ k, o ≤ k → k < o + 6 → ¬ W 155 k) : rM o s1 X := by
  obtain ⟨h1, h2, h3, h4, h5, h6⟩ := h
  exact ⟨by rw [hf.i (hw _ (by omega) (by omega))]; exact h1, by rw [hf.i (hw _ (by omega) (by omega))]; exact h2, by rw [hf.i (hw _ (by omega) (by omega))]; exact h3, by rw [hf.i (hw _ (by omega) (by omega))]; exact h4, by rw [hf.i (hw _ (by omega) (by omega))]; exact h5, by rw [hf.i (hw _ (by omega) (by omega))]; exact h6⟩
theorem th_rule (hx : pX s) (hu : pU s) : prI fU v (d + 6) 50 172 [] s (fun s2 => pX s2 ∧ pU s2) := by
  obtain ⟨B, N, h1, h2, h3⟩ := pX_tX hx
  have hx0 := hx
  have hu0 := hu
  obtain ⟨R, hR, u1, u2, u3⟩ := hu
  have hN := h1.2.2.1
  have hm1 := h1.2.1
  have hm2 := h2.1
  have NOT1 : ∀ K : Int32 → hS → Prop, 80 < N → K (-1000000003) s → pcI (d + 6) 172 [.ref 145] v s K := by
    intro K hn hK
    refine st_M_rule ?_
    rw [hm2, nI_toInt (by omega)]
    exact ⟨fun _ => hK, fun c => absurd (show (80 : Int) < N by omega) c⟩
  have FULL1 : ∀ K : Int32 → hS → Prop, ¬ 80 < N → R = 4 → K (-1000000004) s → pcI (d + 6) 172 [.ref 145] v s K := by
    intro K hn h4 hK
    refine st_M_rule ?_
    rw [hm2, u2, nI_toInt (by omega), nI_toInt (by omega)]
    exact ⟨fun c => absurd c (by omega), fun _ => ⟨fun _ => hK, fun c => absurd (show (R : Int) = 4 by omega) c⟩⟩
  refine st_S_rule ?_
  rw [hm1, u1, nI_toInt (by omega), nI_toInt (by omega)]
  refine ⟨fun c => ⟨Fr.rf _ _, NOT1 _ (by omega) ⟨rfl, Fr.rf _ _, hx0, hu0⟩⟩, fun c => ⟨fun c4 => ?_, fun c4 => ⟨Fr.rf _ _, FULL1 _ (by omega) (by omega) ⟨rfl, Fr.rf _ _, hx0, hu0⟩⟩⟩⟩
  -- the two readings, in the cell 133 + R
  have T : pcV (d + 5) 51 [.ref (133 + R), .ref 49] v s (fun s4 => ((rI s4 49 3).toInt = 0 → (Fr fU s (sI s4 48 6 ((rI s4 48 6) + 1)) ∧ pcI (d + 6) 172 [.ref 145] v (sI s4 48 6 ((rI s4 48 6) + 1)) (fun x2 s2 => x2 = (rI s4 48 6) + 1 - 1 ∧ Fr fU (sI s4 48 6 ((rI s4 48 6) + 1)) s2 ∧ (pX s2 ∧ pU s2)))) ∧ (¬ (rI s4 49 3).toInt = 0 → (Fr fU s s4 ∧ pcI (d + 6) 172 [.ref 145] v s4 (fun x2 s2 => x2 = (-10) - (rI s4 49 3) ∧ Fr fU s4 s2 ∧ (pX s2 ∧ pU s2))))) := by
    refine sp_ruleRead h1 (by unfold kU; omega) (fun sb s4 hf hc => ?_)
    have hfb : Fr fU s sb := hf.mo (fun c k z => by unfold fU; omega)
    cases e : pRule B N with
    | error y =>
      obtain ⟨f, w⟩ := y
      rw [e] at hc
      obtain ⟨f1, f2, f3, a, rfl⟩ := hc
      have ef : rI (sI (sI (tS sb a (nI f) (nI w)) 49 1 0) 49 2 0) 49 3 = nI f := by
        rw [r_II, if_neg (by decide), r_II, if_neg (by decide), tS_r]; rfl
      have hft : Fr (fun c k => c = 49 ∧ 1 ≤ k) sb (sI (sI (tS sb a (nI f) (nI w)) 49 1 0) 49 2 0) := ((tS_fr (Fr.rf _ _) (fun k hk => ⟨rfl, hk⟩)).sI ⟨rfl, by decide⟩).sI ⟨rfl, by decide⟩
      have em : rI (sI (sI (tS sb a (nI f) (nI w)) 49 1 0) 49 2 0) 49 1 = 0 := by
        rw [r_II, if_neg (by decide), r_II, if_pos ⟨rfl, rfl⟩]
      have ep : rI (sI (sI (tS sb a (nI f) (nI w)) 49 1 0) 49 2 0) 49 4 = nI w := by
        rw [r_II, if_neg (by decide), r_II, if_neg (by decide), tS_r, if_pos ⟨rfl, rfl⟩]
      generalize hs4 : sI (sI (tS sb a (nI f) (nI w)) 49 1 0) 49 2 0 = s4 at ef hft em ep ⊢
      have hf4 : Fr (fun c k => c = 133 + R ∨ (c = 49 ∧ 1 ≤ k)) s s4 := (hf.mo (fun c k z => Or.inl z)).tr (hft.mo (fun c k z => Or.inr z))
      have hf4U : Fr fU s s4 := hf4.mo (fun c k z => by unfold fU; omega)
      rw [ef, nI_toInt (by omega)]
      refine ⟨fun c => absurd c (by omega), fun _ => ⟨hf4U, ?_⟩⟩
      have h2' : tM s4 B N := tM_fr h2 hf4 (by omega) (fun k => by omega)
      have u2' : rI s4 145 18 = nI R := by rw [hf4.i (by omega)]; exact u2
      refine sm_rule (d := d + 2) h2' (by omega) (by omega) u2' (fun e2 w2 he2 g1 g2 g3 x2 s2 hx2 hf2 ht2 hp2 => ?_) (fun X he2 => by rw [e] at he2; cases he2)
      rw [e] at he2
      injection he2 with he2
      injection he2 with ea eb
      subst ea; subst eb
      have hff : Fr (fun c k => (c = 133 + R ∨ (c = 49 ∧ 1 ≤ k)) ∨ fRe (6 * R) c k) s s2 := (hf4.mo (fun c k z => Or.inl z)).tr (hf2.mo (fun c k z => Or.inr z))
      refine ⟨i_inj ?_, hf2.mo (fun c k z => by unfold fRe fRd at z; unfold fU; omega), ?_, R, hR, ?_, ?_, fun i hi => ?_⟩
      · have e10 : Int32.toInt (-10) = -10 := rfl
        have : (nI f).toInt = f := nI_toInt (by omega)
        rw [hx2, i_sub, e10, this]
        rw [e10, this]; omega
      · refine pX_empty (pRo_fr h1.1 hff (fun c k hc z => by unfold fRe fRd at z; omega)) ?_ ht2 ?_
        · rw [hf2.i (by unfold fRe fRd; omega)]; exact em
        · rw [hf2.i (by unfold fRe fRd; omega), ep, hp2]
      · rw [hff.i (by unfold fRe fRd; omega)]; exact u1
      · rw [hff.i (by unfold fRe fRd; omega)]; exact u2
      · obtain ⟨X, x1, x2', x3⟩ := u3 i hi
        exact ⟨X, x1, dU_fr x2' hff (fun k => by unfold fRe fRd; omega), rM_fr x3 hff (fun k k1 k2 => by unfold fRe fRd; omega)⟩
    | ok X =>
      rw [e] at hc
      obtain ⟨hd, a, rfl⟩ := hc
      have ef : rI (sI (sI (tS sb a 0 (-1)) 49 1 0) 49 2 0) 49 3 = 0 := by
        rw [r_II, if_neg (by decide), r_II, if_neg (by decide), tS_r]; rfl
      have hft : Fr (fun c k => c = 49 ∧ 1 ≤ k) sb (sI (sI (tS sb a 0 (-1)) 49 1 0) 49 2 0) := ((tS_fr (Fr.rf _ _) (fun k hk => ⟨rfl, hk⟩)).sI ⟨rfl, by decide⟩).sI ⟨rfl, by decide⟩
      have em : rI (sI (sI (tS sb a 0 (-1)) 49 1 0) 49 2 0) 49 1 = 0 := by
        rw [r_II, if_neg (by decide), r_II, if_pos ⟨rfl, rfl⟩]
      have ep : rI (sI (sI (tS sb a 0 (-1)) 49 1 0) 49 2 0) 49 4 = -1 := by
        rw [r_II, if_neg (by decide), r_II, if_neg (by decide), tS_r, if_pos ⟨rfl, rfl⟩]
      generalize hs4 : sI (sI (tS sb a 0 (-1)) 49 1 0) 49 2 0 = s4 at ef hft em ep ⊢
      have hf4 : Fr (fun c k => c = 133 + R ∨ (c = 49 ∧ 1 ≤ k)) s s4 := (hf.mo (fun c k z => Or.inl z)).tr (hft.mo (fun c k z => Or.inr z))
      have hd4 : dU (133 + R) s4 X := dU_fr hd hft (fun k => by omega)
      have u14 : rI s4 48 6 = nI R := by rw [hf4.i (by omega)]; exact u1
      rw [ef, u14]
      refine ⟨fun _ => ?_, fun c => absurd rfl c⟩
      have hf5 : Fr (fun c k => c = 133 + R ∨ (c = 49 ∧ 1 ≤ k) ∨ (c = 48 ∧ k = 6)) s (sI s4 48 6 (nI R + 1)) := (hf4.mo (fun c k z => by omega)).sI (by omega)
      have hf45 : Fr (fun c k => c = 48 ∧ k = 6) s4 (sI s4 48 6 (nI R + 1)) := (Fr.rf (fun c k => c = 48 ∧ k = 6) _).sI ⟨rfl, rfl⟩
      have u15 : rI (sI s4 48 6 (nI R + 1)) 48 6 = nI (R + 1) := by rw [r_II, if_pos ⟨rfl, rfl⟩, nI_1]
      generalize hs5 : sI s4 48 6 (nI R + 1) = s5 at hf5 hf45 u15 ⊢
      refine ⟨hf5.mo (fun c k z => by unfold fU; omega), ?_⟩
      have h2' : tM s5 B N := tM_fr h2 hf5 (by omega) (fun k => by omega)
      have u2' : rI s5 145 18 = nI R := by rw [hf5.i (by omega)]; exact u2
      refine sm_rule (d := d + 2) h2' (by omega) (by omega) u2' (fun e2 w2 he2 => by rw [e] at he2; cases he2) (fun X2 he2 s2 hf2 m1 m2 m3 m4 => ?_)
      rw [e] at he2
      injection he2 with ea
      subst ea
      have hff : Fr (fun c k => (c = 133 + R ∨ (c = 49 ∧ 1 ≤ k) ∨ (c = 48 ∧ k = 6)) ∨ fRm (6 * R) c k) s s2 := (hf5.mo (fun c k z => Or.inl z)).tr (hf2.mo (fun c k z => Or.inr z))
      refine ⟨?_, hf2.mo (fun c k z => by unfold fRm fRe fRd at z; unfold fU; omega), ?_, R + 1, by omega, ?_, m2, fun i hi => ?_⟩
      · rw [nI_1]; exact (nI_pred R).symm
      · refine pX_empty (pRo_fr h1.1 hff (fun c k hc z => by unfold fRm fRe fRd at z; omega)) ?_ m3 ?_
        · rw [hf2.i (by unfold fRm fRe fRd; omega), hf45.i (by omega)]; exact em
        · rw [hf2.i (by unfold fRm fRe fRd; omega), hf45.i (by omega), ep, m4]
      · rw [hf2.i (by unfold fRm fRe fRd; omega)]; exact u15
      · by_cases hiR : i = R
        · subst hiR
          exact ⟨X, pRule_ok e, dU_fr (dU_fr hd4 hf45 (fun k => by omega)) hf2 (fun k => by unfold fRm fRe fRd; omega), m1⟩
        · obtain ⟨Y, x1, x2', x3⟩ := u3 i (by omega)
          exact ⟨Y, x1, dU_fr x2' hff (fun k => by unfold fRm fRe fRd; omega), rM_fr x3 hff (fun k k1 k2 => by unfold fRm fRe fRd; omega)⟩
  refine ⟨by omega, fun e => ?_, fun e => ?_, fun e => ?_, fun e => ?_⟩
  · have : R = 0 := by omega
    subst this; exact T
  · have : R = 1 := by omega
    subst this; exact T
  · have : R = 2 := by omega
    subst this; exact T
  · have : R = 3 := by omega
    subst this; exact T
theorem th_fault (hx : pX s) : prI fX v d 52 173 [] s (fun s2 => s2 = s) := by
  obtain ⟨B, N, h1, h2, h3⟩ := pX_tX hx
  exact st_S_fault ⟨Fr.rf _ _, st_M_fault ⟨h3.symm, Fr.rf _ _, rfl⟩⟩
end
