/-! THE PARTS OF THE STATE: where each is read -/
section
variable {v : hV} {s s1 : hS} {F : Nat → Nat → Prop} {n : Nat}
def gX (c k : Nat) : Prop := (1 ≤ c ∧ c < 48) ∨ (c = 49 ∧ (k = 1 ∨ k = 4)) ∨ c = 50 ∨ c = 153 ∨ (c = 145 ∧ (k = 8 ∨ k = 13))
theorem gX_fr (h : pX s) (hf : Fr F s s1) (hw : ∀ c k, gX c k → ¬ F c k) : pX s1 := by
  obtain ⟨h0, N, h1, h2, h3, h4, h5⟩ := h
  refine ⟨fun c c1 c2 k => by rw [hf.i (hw c k (Or.inl ⟨c1, c2⟩))]; exact h0 c c1 c2 k, N, h1, ?_, ?_, fun i hi => ?_, ?_⟩
  · rw [hf.i (hw _ _ (Or.inr (Or.inl ⟨rfl, Or.inl rfl⟩)))]; exact h2
  · rw [hf.i (hw _ _ (Or.inr (Or.inr (Or.inr (Or.inr ⟨rfl, Or.inl rfl⟩)))))]; exact h3
  · rw [hf.i (hw 50 i (Or.inr (Or.inr (Or.inl rfl)))), hf.i (hw 153 i (Or.inr (Or.inr (Or.inr (Or.inl rfl)))))]; exact h4 i hi
  · rw [hf.i (hw _ _ (Or.inr (Or.inl ⟨rfl, Or.inr rfl⟩))), hf.i (hw _ _ (Or.inr (Or.inr (Or.inr (Or.inr ⟨rfl, Or.inr rfl⟩)))))]; exact h5
/-- a ring's places and strengths, and how many; not what the storm notes there -/
def fR2 (r c k : Nat) : Prop := (c = r ∧ k = 2) ∨ c = r + 1 ∨ c = r + 2
theorem dR_f2 {r : Nat} {L : rgL} (h : dR r s L) (hf : Fr F s s1) (hw : ∀ c k, fR2 r c k → ¬ F c k) : dR r s1 L := by
  obtain ⟨h1, h2, h3⟩ := h
  refine ⟨by rw [hf.i (hw _ _ (Or.inl ⟨rfl, rfl⟩))]; exact h1, h2, fun k hk => ?_⟩
  rw [hf.i (hw _ _ (Or.inr (Or.inl rfl))), hf.i (hw _ _ (Or.inr (Or.inr rfl)))]
  exact h3 k hk
def gT (t c k : Nat) : Prop := c = t + 1 ∨ fR2 (t + 3) c k ∨ fR2 (t + 9) c k ∨ c = 148 ∨ fP 0 0 c k ∨ fP 1 16 c k
theorem gT_fr (h : pT v s) (hf : Fr F s s1) (hw : ∀ c k, gT (vT v) c k → ¬ F c k) : pT v s1 := by
  obtain ⟨D, h1, h2, h3, h4, h5, h6⟩ := h
  refine ⟨D, h1, fun k hk => ?_, dR_f2 h3 hf (fun c k z => hw c k (Or.inr (Or.inl z))), dR_f2 h4 hf (fun c k z => hw c k (Or.inr (Or.inr (Or.inl z)))), dP_fr h5 hf (fun c k z => hw c k (Or.inr (Or.inr (Or.inr (Or.inr (Or.inl z)))))), dP_fr h6 hf (fun c k z => hw c k (Or.inr (Or.inr (Or.inr (Or.inr (Or.inr z))))))⟩
  rw [hf.i (hw (vT v + 1) k (Or.inl rfl)), hf.i (hw 148 k (Or.inr (Or.inr (Or.inr (Or.inl rfl)))))]; exact h2 k hk
def gN (t c k : Nat) : Prop := fN t c k ∨ (c = 154 ∧ k < 48) ∨ (c = 145 ∧ k = 16)
theorem gN_fr (h : pN v s) (hf : Fr F s s1) (hw : ∀ c k, gN (vN v) c k → ¬ F c k) : pN v s1 := by
  obtain ⟨L, h1, h2, h3, h4⟩ := h
  have h12 := h2.2.1
  refine ⟨L, h1, dN_fr h2 hf (fun c k z => hw c k (Or.inl z)), fun k hk => ?_, ?_⟩
  · rw [hf.i (hw 154 (0 + 4 * k) (Or.inr (Or.inl ⟨rfl, by omega⟩))), hf.i (hw 154 (0 + 4 * k + 1) (Or.inr (Or.inl ⟨rfl, by omega⟩))), hf.i (hw 154 (0 + 4 * k + 2) (Or.inr (Or.inl ⟨rfl, by omega⟩))), hf.i (hw 154 (0 + 4 * k + 3) (Or.inr (Or.inl ⟨rfl, by omega⟩)))]
    exact h3 k hk
  · rw [hf.i (hw _ _ (Or.inr (Or.inr ⟨rfl, rfl⟩)))]; exact h4
def gU (c k : Nat) : Prop := (c = 48 ∧ k = 6) ∨ (c = 145 ∧ k = 18) ∨ (133 ≤ c ∧ c ≤ 136) ∨ (c = 155 ∧ k < 24)
theorem gU_fr (h : pU s) (hf : Fr F s s1) (hw : ∀ c k, gU c k → ¬ F c k) : pU s1 := by
  obtain ⟨R, h1, h2, h3, h4⟩ := h
  refine ⟨R, h1, ?_, ?_, fun i hi => ?_⟩
  · rw [hf.i (hw _ _ (Or.inl ⟨rfl, rfl⟩))]; exact h2
  · rw [hf.i (hw _ _ (Or.inr (Or.inl ⟨rfl, rfl⟩)))]; exact h3
  · obtain ⟨X, x1, x2, x3⟩ := h4 i hi
    exact ⟨X, x1, dU_fr x2 hf (fun k => hw _ k (Or.inr (Or.inr (Or.inl ⟨by omega, by omega⟩)))), rM_fr x3 hf (fun k a b => hw _ k (Or.inr (Or.inr (Or.inr ⟨rfl, by omega⟩))))⟩
def gW (c k : Nat) : Prop := (92 ≤ c ∧ c ≤ 92 + 3) ∨ (c = 146 ∧ k < 29)
theorem gW_fr (h : pNow n s) (hf : Fr F s s1) (hw : ∀ c k, gW c k → ¬ F c k) : pNow n s1 := pAir_fr h hf (fun c k a b => hw c k (Or.inl ⟨a, b⟩)) (fun k a b => hw _ k (Or.inr ⟨rfl, by omega⟩))
def gI (c k : Nat) : Prop := (137 ≤ c ∧ c ≤ 141 + 3) ∨ c = 97 ∨ c = 147 ∨ (c = 146 ∧ 64 ≤ k)
theorem gI_fr (h : pI n s) (hf : Fr F s s1) (hw : ∀ c k, gI c k → ¬ F c k) : pI n s1 := fun i hi => by
  obtain ⟨h1, h2⟩ := h i hi
  have e1 : rI s1 97 i = rI s 97 i := hf.i (hw _ _ (Or.inr (Or.inl rfl)))
  have e2 : rI s1 147 i = rI s 147 i := hf.i (hw _ _ (Or.inr (Or.inr (Or.inl rfl))))
  have hi2 : i = 0 ∨ i = 1 := by omega
  rw [e1, e2]
  refine ⟨h1, h2.imp id (fun z => ⟨z.1, pAir_fr z.2 hf (fun c k a b => hw c k (Or.inl ?_)) (fun k a b => hw _ k (Or.inr (Or.inr (Or.inr ⟨rfl, by omega⟩))))⟩)⟩
  rcases hi2 with rfl | rfl
  · have a : 137 ≤ c := a
    have b : c ≤ 137 + 3 := b
    omega
  · have a : 141 ≤ c := a
    have b : c ≤ 141 + 3 := b
    omega
theorem pI_mono (h : pI n s) : pI (n + 1) s := fun i hi => by
  obtain ⟨h1, h2⟩ := h i hi
  exact ⟨h1, h2.imp id (fun z => ⟨z.1, z.2.1, okA_mono z.2.2⟩)⟩
theorem gV_fr (h : pV s) (hf : Fr F s s1) (hw : ∀ k, ¬ F 103 k ∧ ¬ F 157 k) : pV s1 := fun k hk => by
  rw [hf.i (hw k).1, hf.i (hw k).2]; exact h k hk
theorem gPR_fr (h : pPR s) (hf : Fr F s s1) (hw : ∀ k, ¬ F 6 k ∧ ¬ F 7 k) : pPR s1 := fun k hk => by
  rw [hf.i (hw k).1, hf.i (hw k).2]; exact h k hk
def gG (c k : Nat) : Prop := (104 ≤ c ∧ c ≤ 107) ∨ c = 161 ∨ c = 162 ∨ (c = 145 ∧ k = 26)
theorem gG_fr (h : pG s) (hf : Fr F s s1) (hw : ∀ c k, gG c k → ¬ F c k) : pG s1 := by
  obtain ⟨N, h1, h2, h3, h4⟩ := h
  refine ⟨N, h1, ?_, ?_, fun i hi => ?_⟩
  · rw [hf.i (hw _ _ (Or.inl ⟨by omega, by omega⟩))]; exact h2
  · rw [hf.i (hw _ _ (Or.inr (Or.inr (Or.inr ⟨rfl, rfl⟩))))]; exact h3
  · obtain ⟨g, g1, g2, g3, g4, g5⟩ := h4 i hi
    refine ⟨g, g1, ?_, ?_, ?_, ?_⟩
    · rw [hf.i (hw _ _ (Or.inr (Or.inl rfl)))]; exact g2
    · rw [hf.i (hw _ _ (Or.inl ⟨by omega, by omega⟩))]; exact g3
    · rw [hf.i (hw _ _ (Or.inl ⟨by omega, by omega⟩))]; exact g4
    · rw [hf.i (hw _ _ (Or.inl ⟨by omega, by omega⟩)), hf.l (hw _ _ (Or.inr (Or.inr (Or.inl rfl))))]; exact g5
def gDr (c k : Nat) : Prop := (c = 48 ∧ k = 19) ∨ c = 131 ∨ c = 132 ∨ (c = 145 ∧ k = 52) ∨ c = 179 ∨ c = 180
theorem gDr_fr (h : pD s) (hf : Fr F s s1) (hw : ∀ c k, gDr c k → ¬ F c k) : pD s1 := by
  obtain ⟨R, h1, h2, h3, h4⟩ := h
  refine ⟨R, h1, ?_, ?_, fun k hk => ?_⟩
  · rw [hf.i (hw _ _ (Or.inl ⟨rfl, rfl⟩))]; exact h2
  · rw [hf.i (hw _ _ (Or.inr (Or.inr (Or.inr (Or.inl ⟨rfl, rfl⟩)))))]; exact h3
  · rw [hf.i (hw 131 k (Or.inr (Or.inl rfl))), hf.i (hw 132 k (Or.inr (Or.inr (Or.inl rfl)))), hf.i (hw 179 k (Or.inr (Or.inr (Or.inr (Or.inr (Or.inl rfl)))))), hf.i (hw 180 k (Or.inr (Or.inr (Or.inr (Or.inr (Or.inr rfl))))))]
    exact h4 k hk
def gO (t c k : Nat) : Prop := (117 ≤ c ∧ c ≤ 124) ∨ (c = 145 ∧ (k = 37 ∨ k = 38)) ∨ c = 171 ∨ fR2 (t + 3) c k ∨ fP 0 0 c k
theorem gO_fr (h : pO v s) (hf : Fr F s s1) (hw : ∀ c k, gO (vT v) c k → ¬ F c k) : pO v s1 := by
  have B : ∀ c k, 117 ≤ c → c ≤ 124 → rI s1 c k = rI s c k := fun c k a b => hf.i (hw c k (Or.inl ⟨a, b⟩))
  have M1 : rI s1 145 37 = rI s 145 37 := hf.i (hw _ _ (Or.inr (Or.inl ⟨rfl, Or.inl rfl⟩)))
  have M2 : rI s1 145 38 = rI s 145 38 := hf.i (hw _ _ (Or.inr (Or.inl ⟨rfl, Or.inr rfl⟩)))
  have M3 : ∀ k, rI s1 171 k = rI s 171 k := fun k => hf.i (hw _ _ (Or.inr (Or.inr (Or.inl rfl))))
  rcases h with ⟨h1, h2⟩ | ⟨h1, h2, L, a, b, c, c0, c1, c2, h3, h4⟩
  · exact Or.inl ⟨by rw [B _ _ (by omega) (by omega)]; exact h1, by rw [M1]; exact h2⟩
  · refine Or.inr ⟨by rw [B _ _ (by omega) (by omega)]; exact h1, by rw [M1]; exact h2, L, a, b, c, c0, c1, c2, dR_f2 h3 hf (fun c k z => hw c k (Or.inr (Or.inr (Or.inr (Or.inl z))))), ?_⟩
    obtain ⟨g1, g2, g3, g4, g5, g6, g7, g8, g9, g10⟩ := h4
    refine ⟨g1, dP_fr g2 hf (fun c k z => hw c k (Or.inr (Or.inr (Or.inr (Or.inr z))))), g3, g4, g5, ?_, by rw [M2]; exact g7, by rw [M3, M3, M3]; exact g8, by rw [B _ _ (by omega) (by omega)]; exact g9, fun z => ?_⟩
    · unfold lgS at *
      rw [B _ 0 (by omega) (by omega), B _ 1 (by omega) (by omega), B _ 2 (by omega) (by omega), B _ 0 (by omega) (by omega), B _ 1 (by omega) (by omega), B _ 2 (by omega) (by omega)]
      exact g6
    · obtain ⟨R, r1, r2, r3⟩ := g10 z
      exact ⟨R, r1, by rw [B _ _ (by omega) (by omega)]; exact r2, fun j hj => by rw [B _ _ (by omega) (by omega)]; exact r3 j hj⟩
end
