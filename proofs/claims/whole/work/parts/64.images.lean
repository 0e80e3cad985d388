/-! IMAGES: keep, goBack -/
section
variable {d : Nat} {v : hV} {s s1 : hS}
theorem tl_arr (x : Int32) : x.toInt64 = x.toInt64 := rfl
def fB4 (a c _k : Nat) : Prop := a ≤ c ∧ c ≤ a + 3
theorem sp_becomeK0 (hw : (rI s 92 12).toInt = 0 ∨ (rI s 92 12).toInt = 1) {K : hS → Prop} (hK : ∀ s2, Fr (fB4 137) s s2 → (∀ i, i < 29 → cA 137 s2 i = cA 92 s i) → K s2) : pcV d 149 [.ref 137, .ref 92] v s K := by
  refine st_Air_becomeK0 ⟨hw, hK _ ?_ (fun i hi => ?_)⟩
  · have W : ∀ c k, 137 ≤ c ∧ c ≤ 140 → fB4 137 c k := fun c k z => z
    exact ((((((((((((((Fr.rf _ s).sCL (fun _ _ => W _ _ (by decide))).sCL (fun _ _ => W _ _ (by decide))).sCI (fun _ _ => W _ _ (by decide))).sL (W _ _ (by decide))).sL (W _ _ (by decide))).sL (W _ _ (by decide))).sL (W _ _ (by decide))).sL (W _ _ (by decide))).sI (W _ _ (by decide))).sI (W _ _ (by decide))).sI (W _ _ (by decide))).sI (W _ _ (by decide))).sI (W _ _ (by decide))).sL (W _ _ (by decide))
  · match i, hi with
    | 0, _ =>
      show rL _ 138 0 = rL s 93 0
      simp [r_II, r_LL, r_LI, r_IL, r_IC, r_LC, r_ICL, r_LCI]
    | 1, _ =>
      show rL _ 138 1 = rL s 93 1
      simp [r_II, r_LL, r_LI, r_IL, r_IC, r_LC, r_ICL, r_LCI]
    | 2, _ =>
      show rL _ 138 2 = rL s 93 2
      simp [r_II, r_LL, r_LI, r_IL, r_IC, r_LC, r_ICL, r_LCI]
    | 3, _ =>
      show rL _ 138 3 = rL s 93 3
      simp [r_II, r_LL, r_LI, r_IL, r_IC, r_LC, r_ICL, r_LCI]
    | 4, _ =>
      show rL _ 138 4 = rL s 93 4
      simp [r_II, r_LL, r_LI, r_IL, r_IC, r_LC, r_ICL, r_LCI]
    | 5, _ =>
      show rL _ 138 5 = rL s 93 5
      simp [r_II, r_LL, r_LI, r_IL, r_IC, r_LC, r_ICL, r_LCI]
    | 6, _ =>
      show rL _ 138 6 = rL s 93 6
      simp [r_II, r_LL, r_LI, r_IL, r_IC, r_LC, r_ICL, r_LCI]
    | 7, _ =>
      show rL _ 138 7 = rL s 93 7
      simp [r_II, r_LL, r_LI, r_IL, r_IC, r_LC, r_ICL, r_LCI]
    | 8, _ =>
      show rL _ 139 0 = rL s 94 0
      simp [r_II, r_LL, r_LI, r_IL, r_IC, r_LC, r_ICL, r_LCI]
    | 9, _ =>
      show rL _ 139 1 = rL s 94 1
      simp [r_II, r_LL, r_LI, r_IL, r_IC, r_LC, r_ICL, r_LCI]
    | 10, _ =>
      show rL _ 139 2 = rL s 94 2
      simp [r_II, r_LL, r_LI, r_IL, r_IC, r_LC, r_ICL, r_LCI]
    | 11, _ =>
      show rL _ 139 3 = rL s 94 3
      simp [r_II, r_LL, r_LI, r_IL, r_IC, r_LC, r_ICL, r_LCI]
    | 12, _ =>
      show rL _ 139 4 = rL s 94 4
      simp [r_II, r_LL, r_LI, r_IL, r_IC, r_LC, r_ICL, r_LCI]
    | 13, _ =>
      show rL _ 139 5 = rL s 94 5
      simp [r_II, r_LL, r_LI, r_IL, r_IC, r_LC, r_ICL, r_LCI]
    | 14, _ =>
      show rL _ 139 6 = rL s 94 6
      simp [r_II, r_LL, r_LI, r_IL, r_IC, r_LC, r_ICL, r_LCI]
    | 15, _ =>
      show rL _ 139 7 = rL s 94 7
      simp [r_II, r_LL, r_LI, r_IL, r_IC, r_LC, r_ICL, r_LCI]
    | 16, _ =>
      show (rI _ 137 7).toInt64 = (rI s 92 7).toInt64
      simp [r_II, r_LL, r_LI, r_IL, r_IC, r_LC, r_ICL, r_LCI]
    | 17, _ =>
      show rL _ 137 2 = rL s 92 2
      simp [r_II, r_LL, r_LI, r_IL, r_IC, r_LC, r_ICL, r_LCI]
    | 18, _ =>
      show rL _ 137 3 = rL s 92 3
      simp [r_II, r_LL, r_LI, r_IL, r_IC, r_LC, r_ICL, r_LCI]
    | 19, _ =>
      show rL _ 137 4 = rL s 92 4
      simp [r_II, r_LL, r_LI, r_IL, r_IC, r_LC, r_ICL, r_LCI]
    | 20, _ =>
      show rL _ 137 5 = rL s 92 5
      simp [r_II, r_LL, r_LI, r_IL, r_IC, r_LC, r_ICL, r_LCI]
    | 21, _ =>
      show rL _ 137 6 = rL s 92 6
      simp [r_II, r_LL, r_LI, r_IL, r_IC, r_LC, r_ICL, r_LCI]
    | 22, _ =>
      show (rI _ 137 9).toInt64 = (rI s 92 9).toInt64
      simp [r_II, r_LL, r_LI, r_IL, r_IC, r_LC, r_ICL, r_LCI]
    | 23, _ =>
      show (rI _ 137 10).toInt64 = (rI s 92 10).toInt64
      simp [r_II, r_LL, r_LI, r_IL, r_IC, r_LC, r_ICL, r_LCI]
    | 24, _ =>
      show (rI _ 137 11).toInt64 = (rI s 92 11).toInt64
      simp [r_II, r_LL, r_LI, r_IL, r_IC, r_LC, r_ICL, r_LCI]
    | 25, _ =>
      show (rI _ 137 12).toInt64 = (rI s 92 12).toInt64
      simp [r_II, r_LL, r_LI, r_IL, r_IC, r_LC, r_ICL, r_LCI]
    | 26, _ =>
      show (rI _ 140 0).toInt64 = (rI s 95 0).toInt64
      simp [r_II, r_LL, r_LI, r_IL, r_IC, r_LC, r_ICL, r_LCI]
    | 27, _ =>
      show (rI _ 140 1).toInt64 = (rI s 95 1).toInt64
      simp [r_II, r_LL, r_LI, r_IL, r_IC, r_LC, r_ICL, r_LCI]
    | 28, _ =>
      show rL _ 137 13 = rL s 92 13
      simp [r_II, r_LL, r_LI, r_IL, r_IC, r_LC, r_ICL, r_LCI]
    | i + 29, h => exact absurd h (by omega)
theorem sp_becomeK1 (hw : (rI s 92 12).toInt = 0 ∨ (rI s 92 12).toInt = 1) {K : hS → Prop} (hK : ∀ s2, Fr (fB4 141) s s2 → (∀ i, i < 29 → cA 141 s2 i = cA 92 s i) → K s2) : pcV d 149 [.ref 141, .ref 92] v s K := by
  refine st_Air_becomeK1 ⟨hw, hK _ ?_ (fun i hi => ?_)⟩
  · have W : ∀ c k, 141 ≤ c ∧ c ≤ 144 → fB4 141 c k := fun c k z => z
    exact ((((((((((((((Fr.rf _ s).sCL (fun _ _ => W _ _ (by decide))).sCL (fun _ _ => W _ _ (by decide))).sCI (fun _ _ => W _ _ (by decide))).sL (W _ _ (by decide))).sL (W _ _ (by decide))).sL (W _ _ (by decide))).sL (W _ _ (by decide))).sL (W _ _ (by decide))).sI (W _ _ (by decide))).sI (W _ _ (by decide))).sI (W _ _ (by decide))).sI (W _ _ (by decide))).sI (W _ _ (by decide))).sL (W _ _ (by decide))
  · match i, hi with
    | 0, _ =>
      show rL _ 142 0 = rL s 93 0
      simp [r_II, r_LL, r_LI, r_IL, r_IC, r_LC, r_ICL, r_LCI]
    | 1, _ =>
      show rL _ 142 1 = rL s 93 1
      simp [r_II, r_LL, r_LI, r_IL, r_IC, r_LC, r_ICL, r_LCI]
    | 2, _ =>
      show rL _ 142 2 = rL s 93 2
      simp [r_II, r_LL, r_LI, r_IL, r_IC, r_LC, r_ICL, r_LCI]
    | 3, _ =>
      show rL _ 142 3 = rL s 93 3
      simp [r_II, r_LL, r_LI, r_IL, r_IC, r_LC, r_ICL, r_LCI]
    | 4, _ =>
      show rL _ 142 4 = rL s 93 4
      simp [r_II, r_LL, r_LI, r_IL, r_IC, r_LC, r_ICL, r_LCI]
    | 5, _ =>
      show rL _ 142 5 = rL s 93 5
      simp [r_II, r_LL, r_LI, r_IL, r_IC, r_LC, r_ICL, r_LCI]
    | 6, _ =>
      show rL _ 142 6 = rL s 93 6
      simp [r_II, r_LL, r_LI, r_IL, r_IC, r_LC, r_ICL, r_LCI]
    | 7, _ =>
      show rL _ 142 7 = rL s 93 7
      simp [r_II, r_LL, r_LI, r_IL, r_IC, r_LC, r_ICL, r_LCI]
    | 8, _ =>
      show rL _ 143 0 = rL s 94 0
      simp [r_II, r_LL, r_LI, r_IL, r_IC, r_LC, r_ICL, r_LCI]
    | 9, _ =>
      show rL _ 143 1 = rL s 94 1
      simp [r_II, r_LL, r_LI, r_IL, r_IC, r_LC, r_ICL, r_LCI]
    | 10, _ =>
      show rL _ 143 2 = rL s 94 2
      simp [r_II, r_LL, r_LI, r_IL, r_IC, r_LC, r_ICL, r_LCI]
    | 11, _ =>
      show rL _ 143 3 = rL s 94 3
      simp [r_II, r_LL, r_LI, r_IL, r_IC, r_LC, r_ICL, r_LCI]
    | 12, _ =>
      show rL _ 143 4 = rL s 94 4
      simp [r_II, r_LL, r_LI, r_IL, r_IC, r_LC, r_ICL, r_LCI]
    | 13, _ =>
      show rL _ 143 5 = rL s 94 5
      simp [r_II, r_LL, r_LI, r_IL, r_IC, r_LC, r_ICL, r_LCI]
    | 14, _ =>
      show rL _ 143 6 = rL s 94 6
      simp [r_II, r_LL, r_LI, r_IL, r_IC, r_LC, r_ICL, r_LCI]
    | 15, _ =>
      show rL _ 143 7 = rL s 94 7
      simp [r_II, r_LL, r_LI, r_IL, r_IC, r_LC, r_ICL, r_LCI]
    | 16, _ =>
      show (rI _ 141 7).toInt64 = (rI s 92 7).toInt64
      simp [r_II, r_LL, r_LI, r_IL, r_IC, r_LC, r_ICL, r_LCI]
    | 17, _ =>
      show rL _ 141 2 = rL s 92 2
      simp [r_II, r_LL, r_LI, r_IL, r_IC, r_LC, r_ICL, r_LCI]
    | 18, _ =>
      show rL _ 141 3 = rL s 92 3
      simp [r_II, r_LL, r_LI, r_IL, r_IC, r_LC, r_ICL, r_LCI]
    | 19, _ =>
      show rL _ 141 4 = rL s 92 4
      simp [r_II, r_LL, r_LI, r_IL, r_IC, r_LC, r_ICL, r_LCI]
    | 20, _ =>
      show rL _ 141 5 = rL s 92 5
      simp [r_II, r_LL, r_LI, r_IL, r_IC, r_LC, r_ICL, r_LCI]
    | 21, _ =>
      show rL _ 141 6 = rL s 92 6
      simp [r_II, r_LL, r_LI, r_IL, r_IC, r_LC, r_ICL, r_LCI]
    | 22, _ =>
      show (rI _ 141 9).toInt64 = (rI s 92 9).toInt64
      simp [r_II, r_LL, r_LI, r_IL, r_IC, r_LC, r_ICL, r_LCI]
    | 23, _ =>
      show (rI _ 141 10).toInt64 = (rI s 92 10).toInt64
      simp [r_II, r_LL, r_LI, r_IL, r_IC, r_LC, r_ICL, r_LCI]
    | 24, _ =>
      show (rI _ 141 11).toInt64 = (rI s 92 11).toInt64
      simp [r_II, r_LL, r_LI, r_IL, r_IC, r_LC, r_ICL, r_LCI]
    | 25, _ =>
      show (rI _ 141 12).toInt64 = (rI s 92 12).toInt64
      simp [r_II, r_LL, r_LI, r_IL, r_IC, r_LC, r_ICL, r_LCI]
    | 26, _ =>
      show (rI _ 144 0).toInt64 = (rI s 95 0).toInt64
      simp [r_II, r_LL, r_LI, r_IL, r_IC, r_LC, r_ICL, r_LCI]
    | 27, _ =>
      show (rI _ 144 1).toInt64 = (rI s 95 1).toInt64
      simp [r_II, r_LL, r_LI, r_IL, r_IC, r_LC, r_ICL, r_LCI]
    | 28, _ =>
      show rL _ 141 13 = rL s 92 13
      simp [r_II, r_LL, r_LI, r_IL, r_IC, r_LC, r_ICL, r_LCI]
    | i + 29, h => exact absurd h (by omega)
theorem sp_becomeG0 (hw : (rI s 137 12).toInt = 0 ∨ (rI s 137 12).toInt = 1) {K : hS → Prop} (hK : ∀ s2, Fr (fB4 92) s s2 → (∀ i, i < 29 → cA 92 s2 i = cA 137 s i) → K s2) : pcV d 149 [.ref 92, .ref 137] v s K := by
  refine st_Air_becomeG0 ⟨hw, hK _ ?_ (fun i hi => ?_)⟩
  · have W : ∀ c k, 92 ≤ c ∧ c ≤ 95 → fB4 92 c k := fun c k z => z
    exact ((((((((((((((Fr.rf _ s).sCL (fun _ _ => W _ _ (by decide))).sCL (fun _ _ => W _ _ (by decide))).sCI (fun _ _ => W _ _ (by decide))).sL (W _ _ (by decide))).sL (W _ _ (by decide))).sL (W _ _ (by decide))).sL (W _ _ (by decide))).sL (W _ _ (by decide))).sI (W _ _ (by decide))).sI (W _ _ (by decide))).sI (W _ _ (by decide))).sI (W _ _ (by decide))).sI (W _ _ (by decide))).sL (W _ _ (by decide))
  · match i, hi with
    | 0, _ =>
      show rL _ 93 0 = rL s 138 0
      simp [r_II, r_LL, r_LI, r_IL, r_IC, r_LC, r_ICL, r_LCI]
    | 1, _ =>
      show rL _ 93 1 = rL s 138 1
      simp [r_II, r_LL, r_LI, r_IL, r_IC, r_LC, r_ICL, r_LCI]
    | 2, _ =>
      show rL _ 93 2 = rL s 138 2
      simp [r_II, r_LL, r_LI, r_IL, r_IC, r_LC, r_ICL, r_LCI]
    | 3, _ =>
      show rL _ 93 3 = rL s 138 3
      simp [r_II, r_LL, r_LI, r_IL, r_IC, r_LC, r_ICL, r_LCI]
    | 4, _ =>
      show rL _ 93 4 = rL s 138 4
      simp [r_II, r_LL, r_LI, r_IL, r_IC, r_LC, r_ICL, r_LCI]
    | 5, _ =>
      show rL _ 93 5 = rL s 138 5
      simp [r_II, r_LL, r_LI, r_IL, r_IC, r_LC, r_ICL, r_LCI]
    | 6, _ =>
      show rL _ 93 6 = rL s 138 6
      simp [r_II, r_LL, r_LI, r_IL, r_IC, r_LC, r_ICL, r_LCI]
    | 7, _ =>
      show rL _ 93 7 = rL s 138 7
      simp [r_II, r_LL, r_LI, r_IL, r_IC, r_LC, r_ICL, r_LCI]
    | 8, _ =>
      show rL _ 94 0 = rL s 139 0
      simp [r_II, r_LL, r_LI, r_IL, r_IC, r_LC, r_ICL, r_LCI]
    | 9, _ =>
      show rL _ 94 1 = rL s 139 1
      simp [r_II, r_LL, r_LI, r_IL, r_IC, r_LC, r_ICL, r_LCI]
    | 10, _ =>
      show rL _ 94 2 = rL s 139 2
      simp [r_II, r_LL, r_LI, r_IL, r_IC, r_LC, r_ICL, r_LCI]
    | 11, _ =>
      show rL _ 94 3 = rL s 139 3
      simp [r_II, r_LL, r_LI, r_IL, r_IC, r_LC, r_ICL, r_LCI]
    | 12, _ =>
      show rL _ 94 4 = rL s 139 4
      simp [r_II, r_LL, r_LI, r_IL, r_IC, r_LC, r_ICL, r_LCI]
    | 13, _ =>
      show rL _ 94 5 = rL s 139 5
      simp [r_II, r_LL, r_LI, r_IL, r_IC, r_LC, r_ICL, r_LCI]
    | 14, _ =>
      show rL _ 94 6 = rL s 139 6
      simp [r_II, r_LL, r_LI, r_IL, r_IC, r_LC, r_ICL, r_LCI]
    | 15, _ =>
      show rL _ 94 7 = rL s 139 7
      simp [r_II, r_LL, r_LI, r_IL, r_IC, r_LC, r_ICL, r_LCI]
    | 16, _ =>
      show (rI _ 92 7).toInt64 = (rI s 137 7).toInt64
      simp [r_II, r_LL, r_LI, r_IL, r_IC, r_LC, r_ICL, r_LCI]
    | 17, _ =>
      show rL _ 92 2 = rL s 137 2
      simp [r_II, r_LL, r_LI, r_IL, r_IC, r_LC, r_ICL, r_LCI]
    | 18, _ =>
      show rL _ 92 3 = rL s 137 3
      simp [r_II, r_LL, r_LI, r_IL, r_IC, r_LC, r_ICL, r_LCI]
    | 19, _ =>
      show rL _ 92 4 = rL s 137 4
      simp [r_II, r_LL, r_LI, r_IL, r_IC, r_LC, r_ICL, r_LCI]
    | 20, _ =>
      show rL _ 92 5 = rL s 137 5
      simp [r_II, r_LL, r_LI, r_IL, r_IC, r_LC, r_ICL, r_LCI]
    | 21, _ =>
      show rL _ 92 6 = rL s 137 6
      simp [r_II, r_LL, r_LI, r_IL, r_IC, r_LC, r_ICL, r_LCI]
    | 22, _ =>
      show (rI _ 92 9).toInt64 = (rI s 137 9).toInt64
      simp [r_II, r_LL, r_LI, r_IL, r_IC, r_LC, r_ICL, r_LCI]
    | 23, _ =>
      show (rI _ 92 10).toInt64 = (rI s 137 10).toInt64
      simp [r_II, r_LL, r_LI, r_IL, r_IC, r_LC, r_ICL, r_LCI]
    | 24, _ =>
      show (rI _ 92 11).toInt64 = (rI s 137 11).toInt64
      simp [r_II, r_LL, r_LI, r_IL, r_IC, r_LC, r_ICL, r_LCI]
    | 25, _ =>
      show (rI _ 92 12).toInt64 = (rI s 137 12).toInt64
      simp [r_II, r_LL, r_LI, r_IL, r_IC, r_LC, r_ICL, r_LCI]
    | 26, _ =>
      show (rI _ 95 0).toInt64 = (rI s 140 0).toInt64
      simp [r_II, r_LL, r_LI, r_IL, r_IC, r_LC, r_ICL, r_LCI]
    | 27, _ =>
      show (rI _ 95 1).toInt64 = (rI s 140 1).toInt64
      simp [r_II, r_LL, r_LI, r_IL, r_IC, r_LC, r_ICL, r_LCI]
    | 28, _ =>
      show rL _ 92 13 = rL s 137 13
      simp [r_II, r_LL, r_LI, r_IL, r_IC, r_LC, r_ICL, r_LCI]
    | i + 29, h => exact absurd h (by omega)
theorem sp_becomeG1 (hw : (rI s 141 12).toInt = 0 ∨ (rI s 141 12).toInt = 1) {K : hS → Prop} (hK : ∀ s2, Fr (fB4 92) s s2 → (∀ i, i < 29 → cA 92 s2 i = cA 141 s i) → K s2) : pcV d 149 [.ref 92, .ref 141] v s K := by
  refine st_Air_becomeG1 ⟨hw, hK _ ?_ (fun i hi => ?_)⟩
  · have W : ∀ c k, 92 ≤ c ∧ c ≤ 95 → fB4 92 c k := fun c k z => z
    exact ((((((((((((((Fr.rf _ s).sCL (fun _ _ => W _ _ (by decide))).sCL (fun _ _ => W _ _ (by decide))).sCI (fun _ _ => W _ _ (by decide))).sL (W _ _ (by decide))).sL (W _ _ (by decide))).sL (W _ _ (by decide))).sL (W _ _ (by decide))).sL (W _ _ (by decide))).sI (W _ _ (by decide))).sI (W _ _ (by decide))).sI (W _ _ (by decide))).sI (W _ _ (by decide))).sI (W _ _ (by decide))).sL (W _ _ (by decide))
  · match i, hi with
    | 0, _ =>
      show rL _ 93 0 = rL s 142 0
      simp [r_II, r_LL, r_LI, r_IL, r_IC, r_LC, r_ICL, r_LCI]
    | 1, _ =>
      show rL _ 93 1 = rL s 142 1
      simp [r_II, r_LL, r_LI, r_IL, r_IC, r_LC, r_ICL, r_LCI]
    | 2, _ =>
      show rL _ 93 2 = rL s 142 2
      simp [r_II, r_LL, r_LI, r_IL, r_IC, r_LC, r_ICL, r_LCI]
    | 3, _ =>
      show rL _ 93 3 = rL s 142 3
      simp [r_II, r_LL, r_LI, r_IL, r_IC, r_LC, r_ICL, r_LCI]
    | 4, _ =>
      show rL _ 93 4 = rL s 142 4
      simp [r_II, r_LL, r_LI, r_IL, r_IC, r_LC, r_ICL, r_LCI]
    | 5, _ =>
      show rL _ 93 5 = rL s 142 5
      simp [r_II, r_LL, r_LI, r_IL, r_IC, r_LC, r_ICL, r_LCI]
    | 6, _ =>
      show rL _ 93 6 = rL s 142 6
      simp [r_II, r_LL, r_LI, r_IL, r_IC, r_LC, r_ICL, r_LCI]
    | 7, _ =>
      show rL _ 93 7 = rL s 142 7
      simp [r_II, r_LL, r_LI, r_IL, r_IC, r_LC, r_ICL, r_LCI]
    | 8, _ =>
      show rL _ 94 0 = rL s 143 0
      simp [r_II, r_LL, r_LI, r_IL, r_IC, r_LC, r_ICL, r_LCI]
    | 9, _ =>
      show rL _ 94 1 = rL s 143 1
      simp [r_II, r_LL, r_LI, r_IL, r_IC, r_LC, r_ICL, r_LCI]
    | 10, _ =>
      show rL _ 94 2 = rL s 143 2
      simp [r_II, r_LL, r_LI, r_IL, r_IC, r_LC, r_ICL, r_LCI]
    | 11, _ =>
      show rL _ 94 3 = rL s 143 3
      simp [r_II, r_LL, r_LI, r_IL, r_IC, r_LC, r_ICL, r_LCI]
    | 12, _ =>
      show rL _ 94 4 = rL s 143 4
      simp [r_II, r_LL, r_LI, r_IL, r_IC, r_LC, r_ICL, r_LCI]
    | 13, _ =>
      show rL _ 94 5 = rL s 143 5
      simp [r_II, r_LL, r_LI, r_IL, r_IC, r_LC, r_ICL, r_LCI]
    | 14, _ =>
      show rL _ 94 6 = rL s 143 6
      simp [r_II, r_LL, r_LI, r_IL, r_IC, r_LC, r_ICL, r_LCI]
    | 15, _ =>
      show rL _ 94 7 = rL s 143 7
      simp [r_II, r_LL, r_LI, r_IL, r_IC, r_LC, r_ICL, r_LCI]
    | 16, _ =>
      show (rI _ 92 7).toInt64 = (rI s 141 7).toInt64
      simp [r_II, r_LL, r_LI, r_IL, r_IC, r_LC, r_ICL, r_LCI]
    | 17, _ =>
      show rL _ 92 2 = rL s 141 2
      simp [r_II, r_LL, r_LI, r_IL, r_IC, r_LC, r_ICL, r_LCI]
    | 18, _ =>
      show rL _ 92 3 = rL s 141 3
      simp [r_II, r_LL, r_LI, r_IL, r_IC, r_LC, r_ICL, r_LCI]
    | 19, _ =>
      show rL _ 92 4 = rL s 141 4
      simp [r_II, r_LL, r_LI, r_IL, r_IC, r_LC, r_ICL, r_LCI]
    | 20, _ =>
      show rL _ 92 5 = rL s 141 5
      simp [r_II, r_LL, r_LI, r_IL, r_IC, r_LC, r_ICL, r_LCI]
    | 21, _ =>
      show rL _ 92 6 = rL s 141 6
      simp [r_II, r_LL, r_LI, r_IL, r_IC, r_LC, r_ICL, r_LCI]
    | 22, _ =>
      show (rI _ 92 9).toInt64 = (rI s 141 9).toInt64
      simp [r_II, r_LL, r_LI, r_IL, r_IC, r_LC, r_ICL, r_LCI]
    | 23, _ =>
      show (rI _ 92 10).toInt64 = (rI s 141 10).toInt64
      simp [r_II, r_LL, r_LI, r_IL, r_IC, r_LC, r_ICL, r_LCI]
    | 24, _ =>
      show (rI _ 92 11).toInt64 = (rI s 141 11).toInt64
      simp [r_II, r_LL, r_LI, r_IL, r_IC, r_LC, r_ICL, r_LCI]
    | 25, _ =>
      show (rI _ 92 12).toInt64 = (rI s 141 12).toInt64
      simp [r_II, r_LL, r_LI, r_IL, r_IC, r_LC, r_ICL, r_LCI]
    | 26, _ =>
      show (rI _ 95 0).toInt64 = (rI s 144 0).toInt64
      simp [r_II, r_LL, r_LI, r_IL, r_IC, r_LC, r_ICL, r_LCI]
    | 27, _ =>
      show (rI _ 95 1).toInt64 = (rI s 144 1).toInt64
      simp [r_II, r_LL, r_LI, r_IL, r_IC, r_LC, r_ICL, r_LCI]
    | 28, _ =>
      show rL _ 92 13 = rL s 141 13
      simp [r_II, r_LL, r_LI, r_IL, r_IC, r_LC, r_ICL, r_LCI]
    | i + 29, h => exact absurd h (by omega)
theorem sm_copy {x y : Nat} (hx : x ≤ 96) (hy : y ≤ 96) (hxy : x + 32 ≤ y ∨ y + 32 ≤ x) {K : hS → Prop} (hK : ∀ s2, Fr (fun c k => c = 146 ∧ y ≤ k ∧ k < y + 32) s s2 → (∀ k, k < 32 → rL s2 146 (y + k) = rL s 146 (x + k)) → K s2) : pcV d 197 [.ref 145, .int (nI x), .int (nI y)] v s K := by
  refine st_M_copy ?_
  have L : ∀ m i : Nat, i + m = 32 → ∀ s1, Fr (fun c k => c = 146 ∧ y ≤ k ∧ k < y + 32) s s1 → (∀ k, k < i → rL s1 146 (y + k) = rL s 146 (x + k)) → pgV d 197 2 [.ref 145, .int (nI x), .int (nI y), .int (nI i)] [] v s1 K := by
    intro m
    induction m with
    | zero =>
      intro i hi s1 hf h1
      refine st_M_copy_2 ⟨fun c => absurd c ?_, fun _ => hK s1 hf (fun k hk => h1 k (by omega))⟩
      rw [nI_toInt (by omega)]; omega
    | succ m ih =>
      intro i hi s1 hf h1
      refine st_M_copy_2 ⟨fun _ => ?_, fun c => absurd ?_ c⟩
      · rw [nI_add, nI_add, nI_toInt (by omega), nI_toInt (by omega), Int.toNat_natCast, Int.toNat_natCast, nI_1]
        refine ⟨by omega, by omega, ih (i + 1) (by omega) _ (hf.sL (by omega)) (fun k hk => ?_)⟩
        rw [r_LL]
        by_cases hki : k = i
        · rw [if_pos ⟨rfl, by omega⟩, hki]; exact hf.l (by omega)
        · rw [if_neg (by omega)]; exact h1 k (by omega)
      · rw [nI_toInt (by omega)]; omega
  exact L 32 0 rfl s (Fr.rf _ _) (fun k hk => absurd hk (Nat.not_lt_zero k))
def imC (i : Nat) : Nat := if i = 0 then 137 else 141
/-- the images -/
def pI (n : Nat) (s : hS) : Prop := ∀ i, i < 2 → rI s 97 i = rI s 147 i ∧ ((rI s 147 i).toInt = 0 ∨ ((rI s 147 i).toInt = 1 ∧ pAir (imC i) (64 + 32 * i) n s))
def fI (c k : Nat) : Prop := (137 ≤ c ∧ c ≤ 141 + 3) ∨ c = 97 ∨ c = 147 ∨ (c = 146 ∧ 64 ≤ k)
theorem pAir_fr {a x n : Nat} {W : Nat → Nat → Prop} (h : pAir a x n s) (hf : Fr W s s1) (h1 : ∀ c k, a ≤ c → c ≤ a + 3 → ¬ W c k) (h2 : ∀ k, x ≤ k → k < x + 29 → ¬ W 146 k) : pAir a x n s1 := by
  refine ⟨fun i hi => ?_, okA_congr h.2 (fun i hi => hf.l (h2 _ (by omega) (by omega)))⟩
  have := aC_le i hi
  rw [cA_fr hf (h1 _ _ (by omega) (by omega)), hf.l (h2 _ (by omega) (by omega))]
  exact h.1 i hi
theorem cA_wet (a : Nat) (s : hS) : cA a s 25 = (rI s (a + 0) 12).toInt64 := rfl
theorem pAir_wet {a x n : Nat} (h : pAir a x n s) : (rI s a 12).toInt = 0 ∨ (rI s a 12).toInt = 1 := by
  have e := h.1 25 (by decide)
  rw [cA_wet, Nat.add_zero] at e
  have hw := h.2.2.2.2.2.2.2.1
  have hw : (rL s 146 (x + 25)).toInt = 0 ∨ (rL s 146 (x + 25)).toInt = 1 := hw
  rw [← e, i_64] at hw
  exact hw
theorem th_keep {n : Nat} (h : pNow n s) (hi : pI n s) (x : Int32) : prI (fun c k => fI c k) v (d + 1) 148 242 [.int x] s (fun s2 => pI n s2) := by
  have el0 : Int64.toInt 0 = 0 := rfl
  have el1 : Int64.toInt 1 = 1 := rfl
  have O : ∀ K : Int32 → hS → Prop, ¬ (0 ≤ x.toInt ∧ x.toInt ≤ 1) → K (-1000000001) s → pcI (d + 1) 242 [.ref 145, .int x] v s K := fun K hx hK => st_M_keep (sp_in (fun _ => hK) (fun z => absurd z hx))
  -- the part that is the same for both images
  have T : ∀ (i : Nat), i < 2 → x = nI i → ∀ s2, Fr (fB4 (imC i)) s s2 → (∀ j, j < 29 → cA (imC i) s2 j = cA 92 s j) → (0 ≤ x.toInt ∧ x.toInt < 2) ∧ (Fr (fun c k => fI c k) s (sI s2 97 x.toInt.toNat 1) ∧ pcI (d + 1) 242 [.ref 145, .int x] v (sI s2 97 x.toInt.toNat 1) (fun x2 s3 => x2 = 1 ∧ Fr (fun c k => fI c k) (sI s2 97 x.toInt.toNat 1) s3 ∧ pI n s3)) := by
    intro i hi2 hx s2 hf hc
    have hi0 : i = 0 ∨ i = 1 := by omega
    have him : imC i = if i = 0 then 137 else 141 := rfl
    have him2 : (i = 0 ∧ imC i = 137) ∨ (i = 1 ∧ imC i = 141) := by
      rcases hi0 with e | e <;> rw [e]
      · exact Or.inl ⟨rfl, rfl⟩
      · exact Or.inr ⟨rfl, rfl⟩
    have e32 : (64 : Int32) + 32 * x = nI (64 + 32 * i) := by
      rw [hx]
      have : (32 : Int32) * nI i = nI (32 * i) := pk_mul 32 i
      rw [this]; exact nI_add 64 _
    have exi : x.toInt = i := by rw [hx, nI_toInt (by omega)]
    rw [exi, Int.toNat_natCast]
    have hf2 : Fr (fun c k => fI c k) s (sI s2 97 i 1) := (hf.mo (fun c k z => by unfold fB4 at z; unfold fI; omega)).sI (Or.inr (Or.inl rfl))
    refine ⟨by omega, hf2, st_M_keep (sp_in (fun z => absurd (by rw [el0, el1, exi]; omega) z) (fun _ => ?_))⟩
    rw [e32]
    refine sm_copy (x := 0) (by decide) (by omega) (by omega) (fun s4 hf4 h4 => ⟨by omega, rfl, (hf4.mo (fun c k z => by unfold fI; omega)).sI (Or.inr (Or.inr (Or.inl rfl))), ?_⟩)
    rw [exi, Int.toNat_natCast]
    have hlo : ∀ c k, c < 145 → rI (sI s4 147 i 1) c k = rI (sI s2 97 i 1) c k ∧ rL (sI s4 147 i 1) c k = rL (sI s2 97 i 1) c k := fun c k hc => ⟨by rw [r_II, if_neg (by omega)]; exact hf4.i (by omega), hf4.l (by omega)⟩
    intro j hj
    by_cases hij : j = i
    · subst hij
      refine ⟨?_, Or.inr ⟨?_, fun q hq => ?_, ?_⟩⟩
      · rw [(hlo _ _ (by decide)).1, r_II, r_II, if_pos ⟨rfl, rfl⟩, if_pos ⟨rfl, rfl⟩]
      · rw [r_II, if_pos ⟨rfl, rfl⟩]; rfl
      · have hq3 := aC_le q hq
        have c1 : cA (imC j) (sI s4 147 j 1) q = cA (imC j) s2 q := by
          have f1 : Fr (fun c _ => c = 97 ∨ 145 ≤ c) s2 (sI s4 147 j 1) := (((Fr.rf (fun c _ => c = 97 ∨ 145 ≤ c) s2).sI (Or.inl rfl)).tr (hf4.mo (fun c k z => by omega))).sI (by omega)
          exact cA_fr f1 (by omega)
        rw [c1, hc q hq, pNow_at h hq, r_LI]
        have := h4 q (by omega)
        rw [Nat.zero_add, r_LI, hf.l (by unfold fB4; omega)] at this
        exact this.symm
      · refine okA_congr (pNow_ok h) (fun q hq => ?_)
        have := h4 q (by omega)
        rw [Nat.zero_add, r_LI, hf.l (by unfold fB4; omega)] at this
        rw [r_LI]; exact this
    · obtain ⟨g1, g2⟩ := hi j hj
      have f1 : Fr (fun c k => fB4 (imC i) c k ∨ (c = 97 ∧ k = i) ∨ (c = 147 ∧ k = i) ∨ (c = 146 ∧ 64 + 32 * i ≤ k ∧ k < 64 + 32 * i + 32)) s (sI s4 147 i 1) := (((hf.mo (W' := fun c k => fB4 (imC i) c k ∨ (c = 97 ∧ k = i) ∨ (c = 147 ∧ k = i) ∨ (c = 146 ∧ 64 + 32 * i ≤ k ∧ k < 64 + 32 * i + 32)) (fun c k z => Or.inl z)).sI (Or.inr (Or.inl ⟨rfl, rfl⟩))).tr (hf4.mo (fun c k z => Or.inr (Or.inr (Or.inr z))))).sI (Or.inr (Or.inr (Or.inl ⟨rfl, rfl⟩)))
      have himj : (j = 0 ∧ imC j = 137) ∨ (j = 1 ∧ imC j = 141) := by
        have : j = 0 ∨ j = 1 := by omega
        rcases this with e | e <;> rw [e]
        · exact Or.inl ⟨rfl, rfl⟩
        · exact Or.inr ⟨rfl, rfl⟩
      rw [f1.i (by unfold fB4; omega), f1.i (by unfold fB4; omega)]
      refine ⟨g1, g2.imp id (fun z => ⟨z.1, pAir_fr z.2 f1 (fun c k k1 k2 => by unfold fB4; omega) (fun k k1 k2 => by unfold fB4; omega)⟩)⟩
  have hw := pAir_wet h
  refine st_S_keep ⟨fun c => ⟨Fr.rf _ _, O _ (by omega) ⟨rfl, Fr.rf _ _, hi⟩⟩, fun c => ⟨fun c2 => ⟨by omega, fun e => ?_, fun e => ?_⟩, fun c2 => ⟨Fr.rf _ _, O _ (by omega) ⟨rfl, Fr.rf _ _, hi⟩⟩⟩⟩
  · exact sp_becomeK0 hw (fun s2 hf hc => T 0 (by decide) (i_inj e) s2 hf hc)
  · exact sp_becomeK1 hw (fun s2 hf hc => T 1 (by decide) (i_inj e) s2 hf hc)
theorem th_goBack {n : Nat} (h : pNow n s) (hi : pI n s) (x : Int32) : prI fA0 v (d + 1) 150 243 [.int x] s (fun s2 => pNow n s2) := by
  have el0 : Int64.toInt 0 = 0 := rfl
  have el1 : Int64.toInt 1 = 1 := rfl
  have O : ∀ K : Int32 → hS → Prop, ¬ (0 ≤ x.toInt ∧ x.toInt ≤ 1) → K (-1000000001) s → pcI (d + 1) 243 [.ref 145, .int x] v s K := fun K hx hK => st_M_goBack (sp_in (fun _ => hK) (fun z => absurd z hx))
  have NOT1 : ∀ (i : Nat), i < 2 → x = nI i → (rI s 97 i).toInt = 0 → ∀ K : Int32 → hS → Prop, K (-1000000003) s → pcI (d + 1) 243 [.ref 145, .int x] v s K := by
    intro i hi2 hx hk K hK
    have exi : x.toInt = i := by rw [hx, nI_toInt (by omega)]
    rw [(hi i hi2).1] at hk
    refine st_M_goBack (sp_in (fun z => absurd (by rw [el0, el1, exi]; omega) z) (fun _ => ?_))
    rw [exi, Int.toNat_natCast]
    exact ⟨by omega, fun _ => hK, fun z => absurd hk z⟩
  have T : ∀ (i : Nat), i < 2 → x = nI i → ¬ (rI s 97 i).toInt = 0 → ∀ s2, Fr (fB4 92) s s2 → (∀ j, j < 29 → cA 92 s2 j = cA (imC i) s j) → (Fr fA0 s s2 ∧ pcI (d + 1) 243 [.ref 145, .int x] v s2 (fun x2 s3 => x2 = 1 ∧ Fr fA0 s2 s3 ∧ pNow n s3)) := by
    intro i hi2 hx hk s2 hf hc
    obtain ⟨g1, g2⟩ := hi i hi2
    rw [g1] at hk
    have g2 := (g2.resolve_left hk).2
    have e32 : (64 : Int32) + 32 * x = nI (64 + 32 * i) := by
      rw [hx]
      have : (32 : Int32) * nI i = nI (32 * i) := pk_mul 32 i
      rw [this]; exact nI_add 64 _
    have exi : x.toInt = i := by rw [hx, nI_toInt (by omega)]
    refine ⟨hf.mo (fun c k z => by unfold fB4 at z; unfold fA0; omega), st_M_goBack (sp_in (fun z => absurd (by rw [el0, el1, exi]; omega) z) (fun _ => ?_))⟩
    rw [exi, Int.toNat_natCast, e32]
    refine ⟨by omega, fun z => absurd (by rw [hf.i (by unfold fB4; omega)] at z; exact z) hk, fun _ => sm_copy (y := 0) (by omega) (by decide) (by omega) (fun s4 hf4 h4 => ⟨rfl, hf4.mo (fun c k z => by unfold fA0; omega), ?_⟩)⟩
    have r4 : ∀ q, q < 29 → rL s4 146 q = rL s 146 (64 + 32 * i + q) := fun q hq => by
      have := h4 q (by omega)
      rw [Nat.zero_add, hf.l (by unfold fB4; omega)] at this
      exact this
    refine pNow_mk (fun q hq => ?_) (okA_congr g2.2 (fun q hq => r4 q hq))
    have hq3 := aC_le q hq
    rw [cA_fr hf4 (by omega), hc q hq, r4 q hq]
    exact g2.1 q hq
  have wet : ∀ i, i < 2 → ¬ (rI s 97 i).toInt = 0 → (rI s (imC i) 12).toInt = 0 ∨ (rI s (imC i) 12).toInt = 1 := fun i hi2 hk => by
    obtain ⟨g1, g2⟩ := hi i hi2
    rw [g1] at hk
    exact pAir_wet (g2.resolve_left hk).2
  refine st_S_goBack ⟨fun c => ⟨Fr.rf _ _, O _ (by omega) ⟨rfl, Fr.rf _ _, h⟩⟩, fun c => ⟨fun c2 => ⟨by omega, fun e => ⟨by omega, ?_⟩, fun e => ⟨by omega, ?_⟩⟩, fun c2 => ⟨Fr.rf _ _, O _ (by omega) ⟨rfl, Fr.rf _ _, h⟩⟩⟩⟩
  · rw [e]
    have ex : x = nI 0 := i_inj e
    exact ⟨fun k => ⟨Fr.rf _ _, NOT1 0 (by decide) ex k _ ⟨rfl, Fr.rf _ _, h⟩⟩, fun k => sp_becomeG0 (wet 0 (by decide) k) (fun s2 hf hc => T 0 (by decide) ex k s2 hf hc)⟩
  · rw [e]
    have ex : x = nI 1 := i_inj e
    exact ⟨fun k => ⟨Fr.rf _ _, NOT1 1 (by decide) ex k _ ⟨rfl, Fr.rf _ _, h⟩⟩, fun k => sp_becomeG1 (wet 1 (by decide) k) (fun s2 hf hc => T 1 (by decide) ex k s2 hf hc)⟩
end
