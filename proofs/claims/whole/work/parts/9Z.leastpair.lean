/-! least(): the pair -/
section
variable {d : Nat} {v : hV} {s s1 : hS}
theorem pA_fr (h : pA s) {F : Nat → Nat → Prop} (hf : Fr F s s1) (h1 : ¬ F 112 4 ∧ ¬ F 145 33) (h2 : ∀ k, ¬ F 113 k ∧ ¬ F 114 k ∧ ¬ F 115 k ∧ ¬ F 165 k ∧ ¬ F 166 k ∧ ¬ F 167 k) : pA s1 := by
  obtain ⟨a1, a2, a3⟩ := h
  have a1 : rI s 112 4 = rI s 145 33 := a1
  have a2 : 0 ≤ (rI s 145 33).toInt ∧ (rI s 145 33).toInt ≤ 8 := a2
  refine ⟨?_, ?_, fun k hk => ?_⟩
  · show rI s1 112 4 = rI s1 145 33
    rw [hf.i h1.1, hf.i h1.2]; exact a1
  · show 0 ≤ (rI s1 145 33).toInt ∧ (rI s1 145 33).toInt ≤ 8
    rw [hf.i h1.2]; exact a2
  · have hk : (k : Int) < (rI s1 145 33).toInt := hk
    rw [hf.i h1.2] at hk
    have := a3 k hk
    obtain ⟨b1, b2, b3, b4, b5, b6⟩ := h2 k
    show (rI s1 113 k = rI s1 165 k ∧ 1 ≤ (rI s1 165 k).toInt ∧ (rI s1 165 k).toInt ≤ 30) ∧ (rI s1 114 k = rI s1 166 k ∧ 1 ≤ (rI s1 166 k).toInt ∧ (rI s1 166 k).toInt ≤ 2) ∧ (rI s1 115 k = rI s1 167 k ∧ 0 ≤ (rI s1 167 k).toInt ∧ (rI s1 167 k).toInt < 2 ^ k)
    rw [hf.i b1, hf.i b2, hf.i b3, hf.i b4, hf.i b5, hf.i b6]
    exact this
theorem th_least (h : pA s) : prI fA v (d + 12) 115 216 [] s pA := by
  have hh := h
  obtain ⟨a1, a2, a3⟩ := h
  have a1 : rI s 112 4 = rI s 145 33 := a1
  have a2 : 0 ≤ (rI s 145 33).toInt ∧ (rI s 145 33).toInt ≤ 8 := a2
  obtain ⟨N, hNN⟩ : ∃ N : Nat, rI s 145 33 = nI N ∧ N ≤ 8 := ⟨(rI s 145 33).toInt.toNat, i_inj (by rw [nI_toInt (by omega)]; omega), by omega⟩
  obtain ⟨eN, hN⟩ := hNN
  have H : ∀ k, k < N → (rI s 113 k = rI s 165 k ∧ 1 ≤ (rI s 165 k).toInt ∧ (rI s 165 k).toInt ≤ 30) ∧ (rI s 114 k = rI s 166 k ∧ 1 ≤ (rI s 166 k).toInt ∧ (rI s 166 k).toInt ≤ 2) ∧ (rI s 115 k = rI s 167 k ∧ 0 ≤ (rI s 167 k).toInt ∧ (rI s 167 k).toInt < 2 ^ k) := fun k hk => a3 k (by
    show (k : Int) < (rI s 145 33).toInt
    rw [eN, nI_toInt (by omega)]; omega)
  have ok : okT2 N (fun k => (rI s 165 k).toInt) (fun k => (rI s 166 k).toInt) (fun k => (rI s 167 k).toInt.toNat) := ⟨hN, fun k hk => by
    obtain ⟨⟨b1, b2, b3⟩, ⟨c1, c2, c3⟩, d1, d2, d3⟩ := H k hk
    refine ⟨b2, b3, by show (rI s 166 k).toInt = 1 ∨ (rI s 166 k).toInt = 2; omega, ?_⟩
    show (rI s 167 k).toInt.toNat < 2 ^ k
    have e : ((2 ^ k : Nat) : Int) = 2 ^ k := Int.natCast_pow 2 k
    omega⟩
  have e7 : ∀ k, k < N → rI s 167 k = nI (rI s 167 k).toInt.toNat := fun k hk => by
    have h1 := (ok.2 k hk).2.2.2
    have h1 : (rI s 167 k).toInt.toNat < 2 ^ k := h1
    have hp := pw8 (M := k) (by omega)
    have := (H k hk).2.2.2.1
    exact i_inj (by rw [nI_toInt (by omega)]; omega)
  have HC : cAc N (fun k => (rI s 165 k).toInt) (fun k => (rI s 166 k).toInt) (fun k => (rI s 167 k).toInt.toNat) s := ⟨by rw [a1]; exact eN, fun k hk => ⟨by rw [(H k hk).1.1], by rw [(H k hk).2.1.1], by rw [(H k hk).2.2.1]; exact e7 k hk⟩⟩
  have HM : cAm N (fun k => (rI s 165 k).toInt) (fun k => (rI s 166 k).toInt) (fun k => (rI s 167 k).toInt.toNat) s := ⟨eN, fun k hk => ⟨rfl, rfl, e7 k hk⟩⟩
  refine st_S_least (sp_fewest (d := d) ok HC (fun w s1 hw f1 => ⟨f1.mo (fun c k z => by unfold fA; omega), ?_⟩))
  have HM1 := cAm_fr HM f1 (by omega) (fun k => by omega)
  exact sm_least (d := d + 9) ok HM1 (fun w2 s2 hw2 f2 => ⟨i_inj (optS_un hw2 hw), f2.mo (fun c k z => by unfold fA; omega), pA_fr (pA_fr hh f1 (by omega) (fun k => by omega)) f2 (by omega) (fun k => by omega)⟩)
end
