/-! WHAT IS ONLY READ; A FRAME; ITS LOCALS -/
def pf_nst : Cond → Bool
  | .castable _ _ => true
  | w => pf_nest w
/-- of an array that is read and copied: its class and its length, exactly -/
def ps_ex (t i N a : Nat) (U : State) (H : Heap) : Prop := t = 0 → 1 ≤ i → ∃ cell : Cell, H[a]? = some cell ∧ U.vm.findClass "[I" = some cell.cls ∧ cell.slots.size = N
theorem ps_ex.moved {t i N a : Nat} {u U : State} {H : Heap} (hvm : u.vm.Alike U.vm) (h : ps_ex t i N a u H) : ps_ex t i N a U H := fun h1 h2 => by
  obtain ⟨cell, c1, c2, c3⟩ := h h1 h2
  exact ⟨cell, c1, by rw [hvm.findClass]; exact c2, c3⟩
theorem ps_ex.kept {t i N a : Nat} {U : State} {H H1 : Heap} (h : ps_ex t i N a U H) (hq : H1[a]? = H[a]?) : ps_ex t i N a U H1 := fun h1 h2 => by
  obtain ⟨cell, c1, c2, c3⟩ := h h1 h2
  exact ⟨cell, hq.trans c1, c2, c3⟩
theorem ps_T_at {ty : FieldType} {t N : Nat} {f : Nat → Value} {A : Nat → Prop} {U : State} {H H1 : Heap} (h : va_T ty t N f A U H) (hq : ∀ a : Nat, a < H.size → ¬ A a → H1[a]? = H[a]?) : H1[t]? = H[t]? := by
  obtain ⟨cell, h1, h2, h3, h4, h5, h6, h7⟩ := h
  exact hq t (Array.getElem?_eq_some_iff.mp h1).1 h7
/-- what holds of the machine beside the own cells, at a state and its heap -/
def ps_Env (X : ps_X) (U : State) (H : Heap) : Prop :=
  va_K X.2.2.2.2.1 pd_cl (ps_tys X) U ∧
  (∀ i, i < pm_NR → (ps_ro X i).1.1 = 2 → va_T (ps_ty (ps_ro X i).1.2.1) (X.2.1 i) (ps_ro X i).1.2.2 (fun j => .int ((ps_ro X i).2.1 j)) (ps_A X) U H ∧ ps_ex (ps_ro X i).1.2.1 i (ps_ro X i).1.2.2 (X.2.1 i) U H) ∧
  (∀ i, i < pm_NR → (ps_ro X i).1.1 = 3 → va_O "java/lang/String" (X.2.1 i) (ps_A X) U H ∧ va_OF "java/lang/String" "coder" "B" (.int ((ps_ro X i).2.1 1)) (X.2.1 i) (ps_A X) U H ∧ ∃ q, (ps_ro X i).2.2 0 = some q ∧ q < pm_NR ∧ va_OF "java/lang/String" "value" "[B" (.ref (X.2.1 q)) (X.2.1 i) (ps_A X) U H) ∧
  (∀ j, j < pd_nJ → vk_R (pd_str j).1 (pd_str j).2.1 (pd_str j).2.2 (X.2.1 (8 + j)) U) ∧
  (∀ k, k < pd_nS → va_Z (pd_sv k).1 (pd_sv k).2.1 (pd_sv k).2.2 (ps_v X (pd_vv k)) (ps_A X) U H) ∧
  (∀ w ∈ lw_tbl, pf_nst w = true → va_Nw w U) ∧
  (∀ t ∈ pd_tl, 4 ≤ t → va_AO (pd_R (t - 4)) U) ∧
  (X.2.2.1 = .null ∨ ∃ t, X.2.2.1 = .ref t) ∧
  (∀ i, i < pm_NR → (ps_ro X i).1 = (0, 0, 0) ∨ ((ps_ro X i).1.1 = 2 ∧ ((ps_ro X i).1.2.1 = 0 ∨ (ps_ro X i).1.2.1 = 3)) ∨ (ps_ro X i).1.1 = 3) ∧
  (ps_ro X 40).1 = (0, 0, 0)
theorem ps_Env.next {X : ps_X} {s U : State} {H : Heap} {locs : List Loc} (hE : ps_Env X s s.heap) (hS : va_S (ps_A X) s.heap H locs) (hU : U.heap = H) (hW : s.WarmedH U.vm) : ps_Env X U U.heap := by
  obtain ⟨h1, h2, h3, h4, h5, h6, h7, h8, h9⟩ := hE
  rw [hU]
  have hq := hS.2.1
  refine ⟨va_K.moved hW.alike h1, fun i a b => ⟨va_T.moved hW.alike ((h2 i a b).1.kept hq), ((h2 i a b).2.kept (ps_T_at (h2 i a b).1 hq)).moved hW.alike⟩, fun i a b => ?_, fun j a => vk_R.warm hW (h4 j a), fun k a => va_Z.moved hW.alike ((h5 k a).kept hq), fun w a b => ?_, fun t a b => va_AO.moved hW.alike (h7 t a b), h8, h9⟩
  · obtain ⟨c1, c2, q, c3, c4, c5⟩ := h3 i a b
    exact ⟨va_O.moved hW.alike (c1.kept hq), va_OF.moved hW.alike (c2.kept hq), q, c3, c4, va_OF.moved hW.alike (c5.kept hq)⟩
  · have hw := h6 w a b
    cases w with
    | fieldLinkNest a i b n d h => exact va_Nw.warmF hW hw
    | methodLinkNest a i x h => exact va_Nw.warmM hW hw
    | castable a b => exact va_Nw.warmC hW hw
    | _ => cases b
theorem ps_Env.blind {X : ps_X} {U : State} {g : JFrame} {mk : MethodId} {a : Array Value} (h : ps_Env X U U.heap) : ps_Env X (U.calling g mk a) (U.calling g mk a).heap := by
  obtain ⟨h1, h2, h3, h4, h5, h6, h7, h8, h9⟩ := h
  have hal : U.vm.Alike (U.calling g mk a).vm := Vm.Alike.refl U.vm
  refine ⟨va_K.moved hal h1, fun i a b => ⟨va_T.moved hal (h2 i a b).1, (h2 i a b).2.moved hal⟩, fun i a b => ?_, fun j a => vk_R.same rfl (h4 j a), fun k a => va_Z.moved hal (h5 k a), fun w a b => ?_, fun t a b => va_AO.moved hal (h7 t a b), h8, h9⟩
  · obtain ⟨c1, c2, q, c3, c4, c5⟩ := h3 i a b
    exact ⟨va_O.moved hal c1, va_OF.moved hal c2, q, c3, c4, va_OF.moved hal c5⟩
  · have hot : w.onTables = true := by cases w <;> first | rfl | cases b
    exact va_Nw.same (u := U) hot rfl (h6 w a b)
/-! the locals -/
theorem ps_st_lk (l : List Value) : ∀ (i j : Nat) (v : Value), pm_lk (pm_st l i v) j ≠ .null → (j = i ∧ pm_lk (pm_st l i v) j = v) ∨ (j ≠ i ∧ pm_lk (pm_st l i v) j = pm_lk l j ∧ (j + 1 = i → (pm_lk l j).category = 1)) := by
  induction l with
  | nil => intro i j v h; exact absurd rfl h
  | cons a t ih =>
    intro i j v
    match i, j with
    | 0, 0 => exact fun _ => Or.inl ⟨rfl, rfl⟩
    | 0, j + 1 => exact fun _ => Or.inr ⟨by omega, rfl, by omega⟩
    | 1, 0 =>
      intro h
      have h : pm_cl a ≠ .null := h
      refine Or.inr ⟨by omega, ?_, fun _ => ?_⟩
      · show pm_cl a = a
        cases a <;> first | rfl | exact absurd rfl h
      · show a.category = 1
        cases a <;> first | rfl | exact absurd rfl h
    | i + 2, 0 => exact fun _ => Or.inr ⟨by omega, rfl, by omega⟩
    | 1, j + 1 =>
      intro h
      rcases ih 0 j v h with ⟨a1, a2⟩ | ⟨a1, a2, a3⟩
      · exact Or.inl ⟨by omega, a2⟩
      · exact Or.inr ⟨by omega, a2, fun q => a3 (by omega)⟩
    | i + 2, j + 1 =>
      intro h
      rcases ih (i + 1) j v h with ⟨a1, a2⟩ | ⟨a1, a2, a3⟩
      · exact Or.inl ⟨by omega, a2⟩
      · exact Or.inr ⟨by omega, a2, fun q => a3 (by omega)⟩
def ps_L (X : ps_X) (lsM : Array Slot) (nL : Nat) (ls : List Value) : Prop := ∃ lv, lv_has lsM nL lv ∧ ∀ (i : Nat) (v : Value), pm_lk ls i = v → v ≠ .null → (i, ps_v X v) ∈ lv
theorem ps_L.get {X : ps_X} {lsM : Array Slot} {nL : Nat} {ls : List Value} (h : ps_L X lsM nL ls) {i : Nat} {v : Value} (hv : pm_lk ls i = v) (hn : v ≠ .null) : lsM[i]? = some (.val (ps_v X v)) := by
  obtain ⟨lv, h1, h2⟩ := h
  exact h1.2.2 _ (h2 i v hv hn)
theorem ps_v_cat {X : ps_X} (hn : X.2.2.1 = .null ∨ ∃ t, X.2.2.1 = .ref t) (v : Value) : (ps_v X v).category = v.category := by
  cases v with
  | ref i =>
    show (if i = 40 then X.2.2.1 else .ref (ps_ad X i) : Value).category = _
    split
    · rcases hn with h | ⟨t, h⟩ <;> rw [h] <;> rfl
    · rfl
  | _ => rfl
theorem ps_L.put1 {X : ps_X} {lsM : Array Slot} {nL : Nat} {ls : List Value} (hn : X.2.2.1 = .null ∨ ∃ t, X.2.2.1 = .ref t) (h : ps_L X lsM nL ls) (i : Nat) (v : Value) :
    ∃ lv lv', lv_has lsM nL lv ∧ (i, ps_v X v) :: lv.filter (fun q => !(q.1 == i) && !(q.1 + 1 == i && q.2.category == 2)) = lv' ∧ ∀ lsM', lv_has lsM' nL lv' → ps_L X lsM' nL (pm_st ls i v) := by
  obtain ⟨lv, h1, h2⟩ := h
  refine ⟨lv, _, h1, rfl, fun lsM' h3 => ⟨_, h3, fun j w hw hnn => ?_⟩⟩
  rcases ps_st_lk ls i j v (by rw [hw]; exact hnn) with ⟨a1, a2⟩ | ⟨a1, a2, a3⟩
  · rw [← hw, a2, a1]; exact List.mem_cons_self
  · have e : pm_lk ls j = w := a2.symm.trans hw
    refine List.mem_cons_of_mem _ (List.mem_filter.mpr ⟨h2 j w e hnn, ?_⟩)
    have hc := ps_v_cat hn w
    by_cases hj : j + 1 = i
    · have := a3 hj
      rw [e] at this
      simp [a1, hj, hc, this]
    · simp [a1, hj]
theorem ps_L.put2 {X : ps_X} {lsM : Array Slot} {nL : Nat} {ls : List Value} (hn : X.2.2.1 = .null ∨ ∃ t, X.2.2.1 = .ref t) (h : ps_L X lsM nL ls) (i : Nat) (v : Value) :
    ∃ lv lv', lv_has lsM nL lv ∧ (i, ps_v X v) :: lv.filter (fun q => !(q.1 == i) && (!(q.1 == i + 1) && !(q.1 + 1 == i && q.2.category == 2))) = lv' ∧ ∀ lsM', lv_has lsM' nL lv' → ps_L X lsM' nL (pm_st (pm_st ls (i + 1) .null) i v) := by
  obtain ⟨lv, h1, h2⟩ := h
  refine ⟨lv, _, h1, rfl, fun lsM' h3 => ⟨_, h3, fun j w hw hnn => ?_⟩⟩
  rcases ps_st_lk (pm_st ls (i + 1) .null) i j v (by rw [hw]; exact hnn) with ⟨a1, a2⟩ | ⟨a1, a2, a3⟩
  · rw [← hw, a2, a1]; exact List.mem_cons_self
  · have e : pm_lk (pm_st ls (i + 1) .null) j = w := a2.symm.trans hw
    rcases ps_st_lk ls (i + 1) j .null (by rw [e]; exact hnn) with ⟨b1, b2⟩ | ⟨b1, b2, b3⟩
    · exact absurd (e.symm.trans b2) hnn
    · have e2 : pm_lk ls j = w := b2.symm.trans e
      refine List.mem_cons_of_mem _ (List.mem_filter.mpr ⟨h2 j w e2 hnn, ?_⟩)
      have hc := ps_v_cat hn w
      by_cases hj : j + 1 = i
      · have := a3 hj
        rw [e] at this
        simp [a1, b1, hj, hc, this]
      · simp [a1, b1, hj]
/-! a frame of method k; what is wanted of a place of its run -/
def ps_F (p : Program) (s : State) (m : MethodId) (args : Array Value) (meth : Method) (c : Code) (k : Nat) (X : ps_X) : Prop :=
  p.tables.exec = Jvm.exec ∧ c.code = (pd_mm k).2.1 ∧ c.maxLocals = (pd_mm k).2.2.1 ∧ s.vm.findClass (pd_mm k).1.cls = some m.cls ∧ meth.sig.returnType = (pd_mm k).2.2.2.1 ∧ ((pd_mm k).1.name = "<init>" → meth.name = "<init>") ∧ (∀ w ∈ pf_ws, w.before args s = true) ∧ ps_Env X s s.heap ∧ X.1 ≤ s.heap.size ∧ k < pd_nM
def ps_G (p : Program) (l : Launch) (e : Env) (R : Room) (s : State) (m : MethodId) (args : Array Value) (below : List Frame) (meth : Method) (c : Code) (Q : State → Prop) (X : ps_X) (k cE sE : Nat) (x : Option Value × pm_H) (i : Nat) (ls st : List Value) (h : pm_H) : Prop :=
  (h.1.1 ≤ x.2.1.1 ∧ h.1.2.1 ≤ x.2.1.2.1) ∧ ∀ (H : Heap) (locs : List Loc) (lsM : Array Slot) (cells slots : Nat), cells + (x.2.1.1 - h.1.1) = cE → slots + (x.2.1.2.1 - h.1.2.1) = sE → ps_W X h H → ps_L X lsM (pd_mm k).2.2.1 ls → va_S (ps_A X) s.heap H locs → W p l e R s m args below meth c H locs cells slots Q (F0 m (pd_pc k i) lsM (st.map (ps_v X)))
theorem ps_ok {M : pd_M} {pcs : List Nat} {pc pn : Nat} {q : pm_I} (hne : q.1 ≠ .nop) (h : pf_ok M pcs pc pn q = true) : decode M.2.1 pc = .ok (q.1, pf_len q.2.2.1 q.1) ∧ pn = pc + pf_len q.2.2.1 q.1 ∧ pf_chk M pcs pc q = true := by
  obtain ⟨ins, r⟩ := q
  have h2 : (decide (decode M.2.1 pc = .ok (ins, pf_len r.2.1 ins)) && (Nat.beq pn (pc + pf_len r.2.1 ins) && pf_chk M pcs pc (ins, r))) = true := by
    cases ins <;> first | exact h | exact absurd rfl hne
  simp only [Bool.and_eq_true, decide_eq_true_eq] at h2
  exact ⟨h2.1, Nat.eq_of_beq_eq_true h2.2.1, h2.2.2⟩
theorem pm_go_t {b : Bool} {x y : pm_R} {z : Option Value × pm_H} (h : pm_go b x y = some z) : (b = true ∧ x = some z) ∨ (b = false ∧ y = some z) := by
  cases b
  · exact Or.inr ⟨rfl, h⟩
  · exact Or.inl ⟨rfl, h⟩
theorem pm_go_n {b : Bool} {x : pm_R} {z : Option Value × pm_H} (h : pm_go b x none = some z) : b = true ∧ x = some z := by
  cases b
  · cases h
  · exact ⟨rfl, h⟩
theorem pf_vi_e {v : Value} {x : Int32} (h : pf_vi v x = true) : v = .int x := by
  cases v <;> first | (simp [pf_vi] at h; rw [h]) | cases h
theorem pf_vl_e {v : Value} {x : Int64} (h : pf_vl v x = true) : v = .long x := by
  cases v <;> first | (simp [pf_vl] at h; rw [h]) | cases h
theorem pm_inb_in {x : Int32} {n : Nat} (h : pm_inb x n = true) : vp_in x n := by
  simp only [pm_inb, Bool.and_eq_true, decide_eq_true_eq] at h
  intro q
  rcases q with q | q
  · exact absurd h.1 (Int32.not_le.mpr q)
  · omega
