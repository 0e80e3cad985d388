/-! WHAT IS SO BETWEEN TWO CALLS -/
def repV (n : Nat) (v : hV) (s : hS) : Prop := kV v ∧ pX s ∧ pT v s ∧ pN v s ∧ pU s ∧ pNow n s ∧ pI n s ∧ pV s ∧ pLT s ∧ pPR s ∧ pG s ∧ pO v s ∧ pA s ∧ pD s ∧ (pH s ∧ pHk s) ∧ pB v s
def Rep (n : Nat) (S : pl_S) : Prop := repV n (0, S.1, S.2.1, S.2.2.1, S.2.2.2.1) S.2.2.2.2
section
variable {v : hV} {s s1 : hS} {F : Nat → Nat → Prop} {n d y z L : Nat}
def gLT (c k : Nat) : Prop := c = 5 ∧ k < 8
def gV (c _k : Nat) : Prop := c = 103 ∨ c = 157
def gPR (c _k : Nat) : Prop := c = 6 ∨ c = 7
def gA (c k : Nat) : Prop := (c = 112 ∧ k = 4) ∨ (c = 145 ∧ k = 33) ∨ c = 113 ∨ c = 114 ∨ c = 115 ∨ c = 165 ∨ c = 166 ∨ c = 167
def gH (c k : Nat) : Prop := (c = 145 ∧ (k = 44 ∨ k = 46)) ∨ c = 125 ∨ c = 126 ∨ c = 127 ∨ c = 130 ∨ c = 174 ∨ c = 175
def gB (t c _k : Nat) : Prop := (98 ≤ c ∧ c ≤ 102) ∨ c = t + 1
/-- part by part: kept, as nothing of it changes, or new -/
theorem repV_go (h : repV n v s) (hf : Fr F s s1) (cX : pX s1 ∨ ∀ c k, gX c k → ¬ F c k) (cT : pT v s1 ∨ ∀ c k, gT (vT v) c k → ¬ F c k) (cN : pN v s1 ∨ ∀ c k, gN (vN v) c k → ¬ F c k) (cU : pU s1 ∨ ∀ c k, gU c k → ¬ F c k) (cW : pNow (n + 1) s1 ∨ pNow n s1 ∨ ∀ c k, gW c k → ¬ F c k) (cI : pI n s1 ∨ ∀ c k, gI c k → ¬ F c k) (cV : pV s1 ∨ ∀ c k, gV c k → ¬ F c k) (cL : ∀ c k, (gLT c k ∨ gPR c k) → ¬ F c k) (cG : pG s1 ∨ ∀ c k, gG c k → ¬ F c k) (cO : pO v s1 ∨ ∀ c k, gO (vT v) c k → ¬ F c k) (cA : pA s1 ∨ ∀ c k, gA c k → ¬ F c k) (cD : pD s1 ∨ ∀ c k, gDr c k → ¬ F c k) (cH : (pH s1 ∧ pHk s1) ∨ ∀ c k, gH c k → ¬ F c k) (cB : pB v s1 ∨ ∀ c k, gB (vT v) c k → ¬ F c k) : repV (n + 1) v s1 := by
  obtain ⟨h1, h2, h3, h4, h5, h6, h7, h8, h9, h10, h11, h12, h13, h14, ⟨h15, h16⟩, h17⟩ := h
  refine ⟨h1, cX.elim id (fun z => gX_fr h2 hf z), cT.elim id (fun z => gT_fr h3 hf z), cN.elim id (fun z => gN_fr h4 hf z), cU.elim id (fun z => gU_fr h5 hf z), cW.elim id (fun z => pNow_mono (z.elim id (fun z => gW_fr h6 hf z))), pI_mono (cI.elim id (fun z => gI_fr h7 hf z)), cV.elim id (fun z => gV_fr h8 hf (fun k => ⟨z _ k (Or.inl rfl), z _ k (Or.inr rfl)⟩)), pLT_fr h9 hf (fun k hk => cL _ k (Or.inl ⟨rfl, hk⟩)), gPR_fr h10 hf (fun k => ⟨cL _ k (Or.inr (Or.inl rfl)), cL _ k (Or.inr (Or.inr rfl))⟩), cG.elim id (fun z => gG_fr h11 hf z), cO.elim id (fun z => gO_fr h12 hf z), cA.elim id (fun z => ?_), cD.elim id (fun z => gDr_fr h14 hf z), cH.elim id (fun z => ⟨?_, ?_⟩), cB.elim id (fun z => ?_)⟩
  · have zz : ∀ c k, gA c k → ¬ F c k := z
    unfold gA at zz
    exact pA_fr h13 hf ⟨zz _ _ (by omega), zz _ _ (by omega)⟩ (fun k => ⟨zz _ _ (by omega), zz _ _ (by omega), zz _ _ (by omega), zz _ _ (by omega), zz _ _ (by omega), zz _ _ (by omega)⟩)
  · have zz : ∀ c k, gH c k → ¬ F c k := z
    unfold gH at zz
    exact pH_fr2 h15 hf ⟨zz _ _ (by omega), zz _ _ (by omega), zz _ _ (by omega), zz _ _ (by omega)⟩ (fun k => ⟨zz _ _ (by omega), zz _ _ (by omega), zz _ _ (by omega), zz _ _ (by omega)⟩)
  · have zz : ∀ c k, gH c k → ¬ F c k := z
    unfold gH at zz
    exact pHk_fr h16 hf (fun k => ⟨zz _ _ (by omega), zz _ _ (by omega), zz _ _ (by omega), zz _ _ (by omega)⟩)
  · have zz : ∀ c k, gB (vT v) c k → ¬ F c k := z
    unfold gB at zz
    exact pB_fr h17 hf (fun c k a b => zz _ _ (by omega)) (fun k => zz _ _ (by omega))
theorem repV_mono (h : repV n v s) : repV (n + 1) v s := repV_go (F := fun _ _ => False) h (Fr.rf _ _) (Or.inr (fun _ _ _ z => z)) (Or.inr (fun _ _ _ z => z)) (Or.inr (fun _ _ _ z => z)) (Or.inr (fun _ _ _ z => z)) (Or.inr (Or.inr (fun _ _ _ z => z))) (Or.inr (fun _ _ _ z => z)) (Or.inr (fun _ _ _ z => z)) (fun _ _ _ z => z) (Or.inr (fun _ _ _ z => z)) (Or.inr (fun _ _ _ z => z)) (Or.inr (fun _ _ _ z => z)) (Or.inr (fun _ _ _ z => z)) (Or.inr (fun _ _ _ z => z)) (Or.inr (fun _ _ _ z => z))
theorem Rep_mono : ∀ n S, Rep n S → Rep (n + 1) S := fun _ _ h => repV_mono h
theorem pair_I {as : List Value} (H : ∀ (n : Nat) (v : hV) (s : hS), n < 512 → repV n v s → ∃ (F : Nat → Nat → Prop) (Post : hS → Prop), prI F v d y z as s Post ∧ (∀ k, ¬ F 0 k) ∧ ∀ s2, Fr F s s2 → Post s2 → repV (n + 1) v s2) : pl_pairI L Rep d y z as := by
  intro n S hn hR
  have hR : repV n (L, S.1, S.2.1, S.2.2.1, S.2.2.2.1) S.2.2.2.2 := hR
  obtain ⟨F, Post, h1, h2, h3⟩ := H n _ _ hn hR
  refine pc_mono h1 ?_
  rintro r h ⟨x, s1, rfl, rfl, f1, h4⟩
  refine ⟨x, (S.1, S.2.1, S.2.2.1, S.2.2.2.1, s1), rfl, rfl, funext (fun k => f1.i (h2 k)), pc_mono h4 ?_⟩
  rintro r h ⟨x2, s2, rfl, rfl, rfl, f2, h5⟩
  exact ⟨(S.1, S.2.1, S.2.2.1, S.2.2.2.1, s2), rfl, rfl, h3 s2 (f1.tr f2) h5⟩
theorem pair_L {as : List Value} (H : ∀ (n : Nat) (v : hV) (s : hS), n < 512 → repV n v s → ∃ (F : Nat → Nat → Prop) (Post : hS → Prop), prL F v d y z as s Post ∧ (∀ k, ¬ F 0 k) ∧ ∀ s2, Fr F s s2 → Post s2 → repV (n + 1) v s2) : pl_pairL L Rep d y z as := by
  intro n S hn hR
  have hR : repV n (L, S.1, S.2.1, S.2.2.1, S.2.2.2.1) S.2.2.2.2 := hR
  obtain ⟨F, Post, h1, h2, h3⟩ := H n _ _ hn hR
  refine pc_mono h1 ?_
  rintro r h ⟨x, s1, rfl, rfl, f1, h4⟩
  refine ⟨x, (S.1, S.2.1, S.2.2.1, S.2.2.2.1, s1), rfl, rfl, funext (fun k => f1.i (h2 k)), pc_mono h4 ?_⟩
  rintro r h ⟨x2, s2, rfl, rfl, rfl, f2, h5⟩
  exact ⟨(S.1, S.2.1, S.2.2.1, S.2.2.2.1, s2), rfl, rfl, h3 s2 (f1.tr f2) h5⟩
end
