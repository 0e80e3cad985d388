/-! TEXTS: tent(), the class's, whole; the pair -/
def fFr (a c k : Nat) : Prop := c = a + 1 ∨ c = a + 2 ∨ (c = a ∧ 2 ≤ k ∧ k ≤ 7)
def frZ (a : Nat) (s : hS) : Prop := (∀ k, k < 8 → rL s (a + 1) k = 0 ∧ rL s (a + 2) k = 0) ∧ (∀ k, 2 ≤ k → k ≤ 6 → rL s a k = 0) ∧ rI s a 7 = 0
section
variable {d : Nat} {v : hV} {s s1 : hS} {B : Nat → Int} {N : Nat}
theorem sp_airFreshen {a : Nat} (ha : kA a) {K : hS → Prop} (hK : ∀ s2, Fr (fFr a) s s2 → frZ a s2 → K s2) : pcV d 46 [.ref a] v s K := by
  refine st_Air_freshen ha ?_
  have L : ∀ m i : Nat, i + m = 8 → ∀ s1, Fr (fFr a) s s1 → (∀ k, k < i → rL s1 (a + 1) k = 0 ∧ rL s1 (a + 2) k = 0) → pgV d 46 2 [.ref a, .int (nI i)] [] v s1 K := by
    intro m
    induction m with
    | zero =>
      intro i hi s1 hf h1
      refine st_Air_freshen_2 ha ⟨fun c => absurd c ?_, fun _ => hK _ ((((((hf.sL (by unfold fFr; omega)).sL (by unfold fFr; omega)).sL (by unfold fFr; omega)).sL (by unfold fFr; omega)).sL (by unfold fFr; omega)).sI (by unfold fFr; omega)) ⟨fun k hk => ?_, fun k h2 h6 => ?_, ?_⟩⟩
      · rw [nI_toInt (by omega)]; omega
      · simp only [r_LI, r_LL]
        rw [if_neg (by omega), if_neg (by omega), if_neg (by omega), if_neg (by omega), if_neg (by omega), if_neg (by omega), if_neg (by omega), if_neg (by omega), if_neg (by omega), if_neg (by omega)]
        exact h1 k (by omega)
      · simp only [r_LI, r_LL]
        have : k = 2 ∨ k = 3 ∨ k = 4 ∨ k = 5 ∨ k = 6 := by omega
        rcases this with rfl | rfl | rfl | rfl | rfl <;> simp
      · rw [r_II, if_pos ⟨rfl, rfl⟩]
    | succ m ih =>
      intro i hi s1 hf h1
      refine st_Air_freshen_2 ha ⟨fun _ => ?_, fun c => absurd ?_ c⟩
      · rw [nI_toInt (by omega), Int.toNat_natCast, nI_1]
        refine ⟨by omega, by omega, ih (i + 1) (by omega) _ ((hf.sL (Or.inl rfl)).sL (Or.inr (Or.inl rfl))) (fun k hk => ?_)⟩
        rw [r_LL, r_LL, r_LL, if_neg (show ¬ (a + 1 = a + 2 ∧ k = i) by omega)]
        by_cases hki : k = i
        · rw [if_pos ⟨rfl, hki⟩, if_pos ⟨rfl, hki⟩]; exact ⟨rfl, rfl⟩
        · rw [if_neg (fun z => hki z.2), if_neg (fun z => hki z.2), r_LL, if_neg (show ¬ (a + 2 = a + 1 ∧ k = i) by omega)]; exact h1 k (by omega)
      · rw [nI_toInt (by omega)]; omega
  exact L 8 0 rfl s (Fr.rf _ _) (fun k hk => absurd hk (Nat.not_lt_zero k))
/-- what the class's tent() may change -/
def fCt (v : hV) (c k : Nat) : Prop := fD (vU v) c k ∨ (c = 49 ∧ 1 ≤ k) ∨ fFr 92 c k ∨ (c = 104 ∧ k = 3) ∨ (c = 117 ∧ k = 2) ∨ (c = 98 ∧ k = 5)
def fCe (v : hV) (c k : Nat) : Prop := fD (vU v) c k ∨ (c = 49 ∧ 1 ≤ k)
def cFin (v : hV) (s s2 : hS) (D : TD) : Prop := Fr (fCt v) s s2 ∧ dT (vU v) s2 D ∧ rI s2 49 1 = 0 ∧ rI s2 49 4 = -1 ∧ frZ 92 s2 ∧ rI s2 104 3 = 0 ∧ rI s2 117 2 = 0 ∧ rI s2 98 5 = 0
theorem tS_fr {W : Nat → Nat → Prop} {a f p : Int32} (h : Fr W s s1) (hw : ∀ k, 1 ≤ k → W 49 k) : Fr W s (tS s1 a f p) := ((h.sI (hw _ (by decide))).sI (hw _ (by decide))).sI (hw _ (by decide))
theorem sp_Stent (hv : kV v) (h : tX s B N) {Q : Option Value → pm_H → Prop} (her : ∀ e w, pTent B N 300 pTent0 0 0 = .error (e, w) → ∀ (x : Int32) s2, x.toInt = -10 - e → Fr (fCe v) s s2 → rI s2 49 1 = 0 → rI s2 49 4 = nI w → Q (some (.int x)) (hh v s2)) (hok : ∀ D n, pTent B N 300 pTent0 0 0 = .ok (D, n) → ∀ s2, cFin v s s2 D → Q (some (.int (nI n))) (hh (swT v) s2)) : pc (d + 8) 15 [.ref 48] (hh v s) Q := by
  have hk := kT_in hv.1.2.1
  have hkU : vU v ≠ 49 ∧ ∀ c k, fD (vU v) c k → 52 ≤ c ∧ c ≤ 80 := ⟨by omega, fun c k z => by unfold fD fR at z; omega⟩
  have X : ∀ x sb s2, Fr (fD (vU v)) s sb → cF2 (pTent B N 300 pTent0 0 0) sb s2 x (vU v) → pg (d + 8) 15 5 [.ref 48, .null, .null] [.int x] (hh v s2) Q := by
    intro x sb s2 hf hc
    cases e : pTent B N 300 pTent0 0 0 with
    | error y =>
      obtain ⟨f, w⟩ := y
      rw [e] at hc
      obtain ⟨f1, f2, f3, a, rfl⟩ := hc
      have ef : rI (sI (sI (tS sb a (nI f) (nI w)) 49 1 0) 49 2 0) 49 3 = nI f := by
        rw [r_II, if_neg (by decide), r_II, if_neg (by decide), tS_r]; rfl
      have hf2 : Fr (fCe v) s (sI (sI (tS sb a (nI f) (nI w)) 49 1 0) 49 2 0) := ((tS_fr (hf.mo (W' := fCe v) (fun c k z => Or.inl z)) (fun k hk => Or.inr ⟨rfl, hk⟩)).sI (Or.inr ⟨rfl, by decide⟩)).sI (Or.inr ⟨rfl, by decide⟩)
      generalize hs2 : sI (sI (tS sb a (nI f) (nI w)) 49 1 0) 49 2 0 = s2 at ef hf2 ⊢
      refine pg_if (n := 5) (i2 := 16) (i3 := 10) (ls2 := [.ref 48, .int x, .null]) (ls3 := [.ref 48, .int x, .null]) (st2 := []) (st3 := []) (h2 := hh v s2) (h3 := hh v s2) (c := rI s2 49 3 = 0) (fun _ _ => rfl) (fun c => ?_) (fun c => ?_)
      · rw [ef] at c
        have : (nI f).toInt = 0 := by rw [c]; rfl
        rw [nI_toInt (by omega)] at this; omega
      · refine pg_ret (n := 6) (r := some (.int (-10 - rI s2 49 3))) (h1 := hh v s2) (fun _ _ => rfl) (her f w e _ s2 ?_ hf2 ?_ ?_)
        · rw [ef]
          have e10 : Int32.toInt (-10) = -10 := rfl
          have : (nI f).toInt = f := nI_toInt (by omega)
          rw [i_sub, e10, this]
          rw [e10, this]; omega
        · rw [← hs2, r_II, if_neg (by decide), r_II, if_pos ⟨rfl, rfl⟩]
        · rw [← hs2, r_II, if_neg (by decide), r_II, if_neg (by decide), tS_r, if_pos ⟨rfl, rfl⟩]
    | ok y =>
      obtain ⟨D, n⟩ := y
      rw [e] at hc
      obtain ⟨hd, rfl, a, rfl⟩ := hc
      have ef : rI (sI (sI (tS sb a 0 (-1)) 49 1 0) 49 2 0) 49 3 = 0 := by
        rw [r_II, if_neg (by decide), r_II, if_neg (by decide), tS_r]; rfl
      have hf2 : Fr (fCt v) s (sI (sI (tS sb a 0 (-1)) 49 1 0) 49 2 0) := ((tS_fr (hf.mo (W' := fCt v) (fun c k z => Or.inl z)) (fun k hk => Or.inr (Or.inl ⟨rfl, hk⟩))).sI (Or.inr (Or.inl ⟨rfl, by decide⟩))).sI (Or.inr (Or.inl ⟨rfl, by decide⟩))
      have em : rI (sI (sI (tS sb a 0 (-1)) 49 1 0) 49 2 0) 49 1 = 0 := by
        rw [r_II, if_neg (by decide), r_II, if_pos ⟨rfl, rfl⟩]
      have ep : rI (sI (sI (tS sb a 0 (-1)) 49 1 0) 49 2 0) 49 4 = -1 := by
        rw [r_II, if_neg (by decide), r_II, if_neg (by decide), tS_r, if_pos ⟨rfl, rfl⟩]
      have hd2 : dT (vU v) (sI (sI (tS sb a 0 (-1)) 49 1 0) 49 2 0) D := dT_fr hd (W := fun c _ => c = 49) (((tS_fr (W := fun c _ => c = 49) (Fr.rf _ _) (fun _ _ => rfl)).sI rfl).sI rfl) (fun c k z z2 => by have := hkU.2 c k z; omega)
      generalize hs2 : sI (sI (tS sb a 0 (-1)) 49 1 0) 49 2 0 = s2 at ef hf2 em ep hd2 ⊢
      refine pg_if (n := 5) (i2 := 16) (i3 := 10) (ls2 := [.ref 48, .int (nI n), .null]) (ls3 := [.ref 48, .int (nI n), .null]) (st2 := []) (st3 := []) (h2 := hh v s2) (h3 := hh v s2) (c := rI s2 49 3 = 0) (fun _ _ => rfl) (fun _ => ?_) (fun c => absurd ef c)
      have Y : pg (d + 8) 15 26 [.ref 48, .int (nI n), .ref (vT v)] [] (hh (swT v) s2) Q := by
        have hvs : kV (swT v) := ⟨⟨hv.1.2.1, hv.1.1, fun z => hv.1.2.2 z.symm⟩, hv.2⟩
        refine pg_call (n := 3) (i2 := 29) (y := 46) (ls2 := [.ref 48, .int (nI n), .ref (vT v)]) (rest := []) (as := [.ref 92]) (h2 := hh (swT v) s2) (fun _ _ => rfl) (pcV_k (v := swT v) (K := fun s3 => Fr (fFr 92) s2 s3 ∧ frZ 92 s3) (sp_airFreshen (Or.inl rfl) (fun s3 h3 h4 => ⟨h3, h4⟩)) (fun s3 h3 => ?_))
        obtain ⟨h3, h4⟩ := h3
        refine pg_ret (n := 14) (r := some (.int (nI n))) (h1 := hh (swT v) (sI (sI (sI s3 104 3 0) 117 2 0) 98 5 0)) (fun _ _ => rfl) (hok D n e _ ?_)
        have hf3 : Fr (fCt v) s s3 := hf2.tr (h3.mo (fun c k z => Or.inr (Or.inr (Or.inl z))))
        have hf4 : Fr (fCt v) s (sI (sI (sI s3 104 3 0) 117 2 0) 98 5 0) := ((hf3.sI (Or.inr (Or.inr (Or.inr (Or.inl ⟨rfl, rfl⟩))))).sI (Or.inr (Or.inr (Or.inr (Or.inr (Or.inl ⟨rfl, rfl⟩)))))).sI (Or.inr (Or.inr (Or.inr (Or.inr (Or.inr ⟨rfl, rfl⟩)))))
        have hf5 : Fr (fun c k => 81 ≤ c) s2 (sI (sI (sI s3 104 3 0) 117 2 0) 98 5 0) := (((h3.mo (fun c k z => by unfold fFr at z; omega)).sI (by decide)).sI (by decide)).sI (by decide)
        refine ⟨hf4, dT_fr hd2 hf5 (fun c k z z2 => by have := hkU.2 c k z; omega), ?_, ?_, ⟨fun k hk => ?_, fun k k2 k6 => ?_, ?_⟩, ?_, ?_, ?_⟩
        · rw [hf5.i (by decide)]; exact em
        · rw [hf5.i (by decide)]; exact ep
        · exact h4.1 k hk
        · exact h4.2.1 k k2 k6
        · rw [r_II, if_neg (by decide), r_II, if_neg (by decide), r_II, if_neg (by decide)]; exact h4.2.2
        · rw [r_II, if_neg (by decide), r_II, if_neg (by decide), r_II, if_pos ⟨rfl, rfl⟩]
        · rw [r_II, if_neg (by decide), r_II, if_pos ⟨rfl, rfl⟩]
        · rw [r_II, if_pos ⟨rfl, rfl⟩]
      rw [← sw_tent hv s2] at Y
      obtain ⟨l0, t, u, n1, n2⟩ := v
      obtain ⟨⟨h1, h2, h3⟩, -⟩ := hv
      have h1 : t = 51 ∨ t = 66 := h1
      have h2 : u = 51 ∨ u = 66 := h2
      have h3 : t ≠ u := h3
      rcases h1 with rfl | rfl <;> rcases h2 with rfl | rfl
      · exact absurd rfl h3
      · exact pg_st (n := 10) (fun _ _ => rfl) Y
      · exact pg_st (n := 10) (fun _ _ => rfl) Y
      · exact absurd rfl h3
  have hR : pcI (d + 7) 16 [.ref (vU v), .ref 49] v s (fun x s2 => pg (d + 8) 15 5 [.ref 48, .null, .null] [.int x] (hh v s2) Q) := sp_tentRead h hv.1.2.1 (fun x sb s2 hf hc => X x sb s2 hf hc)
  refine ⟨Nat.le_of_ble_eq_true rfl, ?_⟩
  obtain ⟨l0, t, u, n1, n2⟩ := v
  obtain ⟨⟨h1, h2, h3⟩, -⟩ := hv
  have h2 : u = 51 ∨ u = 66 := h2
  rcases h2 with rfl | rfl
  · exact pg_call (n := 5) (i2 := 5) (y := 16) (ls2 := [.ref 48, .null, .null]) (rest := []) (as := [.ref 51, .ref 49]) (h2 := hh (l0, t, 51, n1, n2) s) (fun _ _ => rfl) (pcI_k hR (fun x s2 z => z))
  · exact pg_call (n := 5) (i2 := 5) (y := 16) (ls2 := [.ref 48, .null, .null]) (rest := []) (as := [.ref 66, .ref 49]) (h2 := hh (l0, t, 66, n1, n2) s) (fun _ _ => rfl) (pcI_k hR (fun x s2 z => z))
end
