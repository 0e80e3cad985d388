/-! A WORLD OF THE PURE MACHINE IN THE MACHINE'S HEAP -/
/-- where the claim's own cells begin; where what is only read stands; an object that nobody asks, or null; the arrays' classes; the classes; what is only read: kind, ints, references -/
abbrev ps_X : Type := Nat × (Nat → Nat) × Value × (Nat → ClassId) × va_G × (Nat → (Nat × Nat × Nat) × (Nat → Int32) × (Nat → Option Nat))
def ps_ad (X : ps_X) (i : Nat) : Nat := if i < pm_NR then X.2.1 i else X.1 + (i - pm_NR)
def ps_v (X : ps_X) (v : Value) : Value := match v with
  | .ref i => if i = 40 then X.2.2.1 else .ref (ps_ad X i)
  | w => w
def ps_A (X : ps_X) : Nat → Prop := fun q => X.1 ≤ q
def ps_ty (t : Nat) : FieldType := match t with
  | 0 => .int
  | 1 => .boolean
  | 2 => .long
  | 3 => .byte
  | t + 4 => .object (pd_R t)
def ps_tys (X : ps_X) : List (ClassId × FieldType) := pd_tl.map (fun t => (X.2.2.2.1 t, ps_ty t))
def ps_ro (X : ps_X) (i : Nat) : (Nat × Nat × Nat) × (Nat → Int32) × (Nat → Option Nat) := X.2.2.2.2.2 i
def ps_fv (X : ps_X) (h : pm_H) (i c k : Nat) : Value := match pf_tc (pd_Y c k) with
  | 2 => .long (h.2.2.1 i k)
  | 3 => va_rf ((h.2.2.2 i k).map (ps_ad X))
  | _ => .int (h.2.1 i k)
def ps_fs (X : ps_X) (h : pm_H) (i c : Nat) : List Value := (List.range (pd_N c)).map (ps_fv X h i c)
def ps_el (X : ps_X) (h : pm_H) (i t : Nat) : (Nat → Int32) ⊕ (Nat → Int64) ⊕ (Nat → UInt32) ⊕ (Nat → UInt64) ⊕ (Nat → Option Nat) :=
  if t = 2 then .inr (.inl (h.2.2.1 i)) else if t < 4 then .inl (h.2.1 i) else .inr (.inr (.inr (.inr (fun j => (h.2.2.2 i j).map (ps_ad X)))))
def ps_E (X : ps_X) (h : pm_H) (i : Nat) : va_E := if (pm_kd h i).1 = 1 then .inr ((pm_kd h i).2.1, ps_fs X h i (pm_kd h i).2.1) else .inl (X.2.2.2.1 (pm_kd h i).2.1, (pm_kd h i).2.2, ps_el X h i (pm_kd h i).2.1)
def ps_ws (X : ps_X) (h : pm_H) : va_W := (List.range (h.1.1 - pm_NR)).map (fun j => (X.1 + j, ps_E X h (pm_NR + j)))
theorem ps_ad_own {X : ps_X} {i : Nat} (hi : pm_NR ≤ i) : ps_ad X i = X.1 + (i - pm_NR) := if_neg (Nat.not_lt.mpr hi)
theorem ps_ad_ro {X : ps_X} {i : Nat} (hi : i < pm_NR) : ps_ad X i = X.2.1 i := if_pos hi
theorem ps_ws_at {X : ps_X} {h : pm_H} {i : Nat} (hi : pm_NR ≤ i) (hn : i < h.1.1) : (ps_ws X h)[i - pm_NR]? = some (ps_ad X i, ps_E X h i) := by
  have h1 : i - pm_NR < h.1.1 - pm_NR := by omega
  have h2 : pm_NR + (i - pm_NR) = i := by omega
  simp [ps_ws, List.getElem?_map, List.getElem?_range h1, ps_ad_own hi, h2]
theorem ps_ws_len {X : ps_X} {h : pm_H} : (ps_ws X h).length = h.1.1 - pm_NR := by simp [ps_ws]
theorem ps_ws_get {X : ps_X} {h : pm_H} {j : Nat} {q : Nat × va_E} (hq : (ps_ws X h)[j]? = some q) : j < h.1.1 - pm_NR ∧ q = (X.1 + j, ps_E X h (pm_NR + j)) := by
  have hj : j < h.1.1 - pm_NR := by
    have := (List.getElem?_eq_some_iff.mp hq).1
    rwa [ps_ws_len] at this
  refine ⟨hj, ?_⟩
  simp only [ps_ws, List.getElem?_map, List.getElem?_range hj, Option.map_some, Option.some.injEq] at hq
  exact hq.symm
theorem ps_D (X : ps_X) (h : pm_H) : va_D (ps_A X) (ps_ws X h) := by
  refine ⟨fun i j p q hp hq e => ?_, fun k q hq => ?_⟩
  · obtain ⟨-, rfl⟩ := ps_ws_get hp
    obtain ⟨-, rfl⟩ := ps_ws_get hq
    have e : X.1 + i = X.1 + j := e
    omega
  · obtain ⟨-, rfl⟩ := ps_ws_get hq
    exact Nat.le_add_right _ _
/-- the world behind a change of one cell -/
theorem ps_ws_set {X : ps_X} {h h' : pm_H} {i : Nat} (hi : pm_NR ≤ i) (hn : i < h.1.1) (e1 : h'.1.1 = h.1.1) (ho : ∀ j, j ≠ i → pm_NR ≤ j → ps_E X h' j = ps_E X h j) : (ps_ws X h).set (i - pm_NR) (ps_ad X i, ps_E X h' i) = ps_ws X h' := by
  apply List.ext_getElem?
  intro j
  by_cases hj : j < h.1.1 - pm_NR
  · have g' : (ps_ws X h')[j]? = some (X.1 + j, ps_E X h' (pm_NR + j)) := by
      simp [ps_ws, List.getElem?_map, List.getElem?_range (show j < h'.1.1 - pm_NR by rw [e1]; exact hj)]
    have g : (ps_ws X h)[j]? = some (X.1 + j, ps_E X h (pm_NR + j)) := by
      simp [ps_ws, List.getElem?_map, List.getElem?_range hj]
    rw [g', List.getElem?_set]
    by_cases hij : i - pm_NR = j
    · rw [if_pos hij, if_pos (by rw [ps_ws_len]; omega), ps_ad_own hi]
      subst hij
      rw [show pm_NR + (i - pm_NR) = i by omega]
    · rw [if_neg hij, g, ho (pm_NR + j) (by omega) (by omega)]
  · rw [List.getElem?_eq_none (by rw [List.length_set, ps_ws_len]; omega), List.getElem?_eq_none (by rw [ps_ws_len, e1]; omega)]
/-- the world behind a new cell -/
theorem ps_ws_push {X : ps_X} {h h' : pm_H} (hn : pm_NR ≤ h.1.1) (e1 : h'.1.1 = h.1.1 + 1) (ho : ∀ j, j ≠ h.1.1 → pm_NR ≤ j → ps_E X h' j = ps_E X h j) : ps_ws X h ++ [(X.1 + (h.1.1 - pm_NR), ps_E X h' h.1.1)] = ps_ws X h' := by
  unfold ps_ws
  rw [e1, show h.1.1 + 1 - pm_NR = (h.1.1 - pm_NR) + 1 by omega, List.range_succ, List.map_append, List.map_singleton, show pm_NR + (h.1.1 - pm_NR) = h.1.1 by omega]
  congr 1
  apply List.map_congr_left
  intro j hj
  rw [List.mem_range] at hj
  rw [ho (pm_NR + j) (by omega) (by omega)]
def ps_wf (q : Nat × Nat × Nat) : Prop := (q.1 = 1 ∧ q.2.1 < pd_nC) ∨ (q.1 = 2 ∧ q.2.1 ∈ pd_tl)
def ps_W (X : ps_X) (h : pm_H) (H : Heap) : Prop := pm_NR ≤ h.1.1 ∧ True ∧ va_P X.2.2.2.2.1 pd_cl (ps_ws X h) H ∧ (∀ i, pm_NR ≤ i → i < h.1.1 → ps_wf (pm_kd h i)) ∧ (∀ i, h.1.1 ≤ i → pm_kd h i = (0, 0, 0)) ∧ ∀ i, i < pm_NR → pm_kd h i = (ps_ro X i).1 ∧ h.2.1 i = (ps_ro X i).2.1 ∧ h.2.2.2 i = (ps_ro X i).2.2
theorem ps_W.lt {X : ps_X} {h : pm_H} {H : Heap} (hw : ps_W X h H) {r : Nat} (hk : (pm_kd h r).1 ≠ 0) : r < h.1.1 := by
  apply Nat.not_le.mp
  intro q
  rw [hw.2.2.2.2.1 r q] at hk
  exact hk rfl
/-- the heap changes one own cell's row -/
theorem ps_W.put {X : ps_X} {h h' : pm_H} {H H1 : Heap} (hw : ps_W X h H) {r : Nat} (hr : pm_NR ≤ r) (hn : r < h.1.1) (e1 : h'.1 = h.1) (ho : ∀ j, j ≠ r → h'.2.1 j = h.2.1 j ∧ h'.2.2.1 j = h.2.2.1 j ∧ h'.2.2.2 j = h.2.2.2 j) (hP : va_P X.2.2.2.2.1 pd_cl ((ps_ws X h).set (r - pm_NR) (ps_ad X r, ps_E X h' r)) H1) : ps_W X h' H1 := by
  have hkd : ∀ j, pm_kd h' j = pm_kd h j := fun j => by show h'.1.2.2 j = h.1.2.2 j; rw [e1]
  have hEo : ∀ j, j ≠ r → pm_NR ≤ j → ps_E X h' j = ps_E X h j := by
    intro j hj _
    obtain ⟨a1, a2, a3⟩ := ho j hj
    unfold ps_E ps_fs ps_el
    rw [hkd j]
    have hf : ∀ c, ps_fv X h' j c = ps_fv X h j c := fun c => by
      funext k
      unfold ps_fv
      rw [a1, a2, a3]
    rw [hf, a1, a2, a3]
  obtain ⟨w1, w2, w3, w4, w5, w6⟩ := hw
  refine ⟨by rw [e1]; exact w1, trivial, ?_, fun i a b => ?_, fun i a => ?_, fun i a => ?_⟩
  · rw [← ps_ws_set hr hn (by rw [e1]) hEo]
    exact hP
  · rw [hkd]; exact w4 i a (by rw [← e1]; exact b)
  · rw [hkd]; exact w5 i (by rw [← e1]; exact a)
  · have hi : i ≠ r := by omega
    obtain ⟨a1, a2, a3⟩ := ho i hi
    rw [hkd, a1, a3]
    exact w6 i a
theorem ps_cl {c : Nat} (hc : c < pd_nC) : pd_cl[c]? = some (pd_R c, pd_T c, pd_N c) := by
  simp [pd_cl, List.getElem?_map, List.getElem?_range hc]
theorem ps_fs_len {X : ps_X} {h : pm_H} {i c : Nat} : (ps_fs X h i c).length = pd_N c := by simp [ps_fs]
theorem ps_fs_at {X : ps_X} {h : pm_H} {i c k : Nat} (hk : k < pd_N c) : (ps_fs X h i c)[k]? = some (ps_fv X h i c k) := by
  simp [ps_fs, List.getElem?_map, List.getElem?_range hk]
