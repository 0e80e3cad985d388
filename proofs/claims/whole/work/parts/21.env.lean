/-! WHAT IS ONLY READ, at the law's entry -/
def pe_nT : Nat := 7
/-- the cells that are only read: kind, ints, references -/
def pe_ro (L : Nat) (xs : Nat → Int32) (i : Nat) : (Nat × Nat × Nat) × (Nat → Int32) × (Nat → Option Nat) :=
  if i = 0 then ((2, 0, L), xs, fun _ => none)
  else if i ≤ pe_nT then ((2, 0, (pd_tab i).length), fun j => (pd_tab i).getD j 0, fun _ => none)
  else if 8 ≤ i ∧ i < 8 + pd_nJ then ((3, i - 8, 0), fun _ => 0, fun k => if k = 0 then some (i + 16) else none)
  else if 24 ≤ i ∧ i < 24 + pd_nJ then ((2, 3, (pd_sb (i - 24)).length), fun j => (pd_sb (i - 24)).getD j 0, fun _ => none)
  else ((0, 0, 0), fun _ => 0, fun _ => none)
/-- a static array's declarer and name -/
def pe_st (k : Nat) : String × String := match k with
  | 1 => ("SkinTent$Tent", "UNTOLD")
  | 2 => ("SkinTent$Tent", "FIRST_VALUE")
  | 3 => ("SkinTent$Tent", "LEAST")
  | 4 => ("SkinTent$Tent", "MOST")
  | 5 => ("SkinTent$Air", "LIFTS")
  | 6 => ("SkinTent$Storm", "PRESS")
  | _ => ("SkinTent$Storm", "PULL")
def pe_tm (k : Nat) : Term := .static (pe_st k).1 (pe_st k).2 "[I"
def pe_ts (i : Nat) : Term := .string (pd_str i).1 (pd_str i).2.1
def pe_fl : List Cond := flatC (Jvm.Cond.and given_1 narrow_1)
theorem pe_a1 : ∀ k, k < pe_nT + 1 → 1 ≤ k → Cond.arrayOf (pe_tm k) .int ∈ pe_fl ∧ Cond.eq (.length (pe_tm k)) (.int (Int32.ofNat (pd_tab k).length)) ∈ pe_fl ∧ Cond.exactly (pe_tm k) "[I" ∈ pe_fl := by decide +kernel
theorem pe_a2 : ∀ k, k < pe_nT + 1 → 1 ≤ k → ∀ j, j < (pd_tab k).length → Cond.eq (.elem (pe_tm k) (.int (Int32.ofNat j))) (.int ((pd_tab k).getD j 0)) ∈ pe_fl := by decide +kernel
theorem pe_s1 : ∀ i, i < pd_nJ → (pd_sb i).length < 2 ^ 31 ∧ Cond.exactly (pe_ts i) "java/lang/String" ∈ pe_fl ∧ Cond.eq (.field (pe_ts i) "java/lang/String" "coder" "B") (.int 0) ∈ pe_fl ∧ Cond.arrayOf (.field (pe_ts i) "java/lang/String" "value" "[B") .byte ∈ pe_fl ∧ Cond.eq (.length (.field (pe_ts i) "java/lang/String" "value" "[B")) (.int (Int32.ofNat (pd_sb i).length)) ∈ pe_fl := by decide +kernel
theorem pe_s2 : ∀ i, i < pd_nJ → ∀ j, j < (pd_sb i).length → Cond.eq (.elem (.field (pe_ts i) "java/lang/String" "value" "[B") (.int (Int32.ofNat j))) (.int ((pd_sb i).getD j 0)) ∈ pe_fl := by decide +kernel
def pe_pr : List (Nat × Nat) := [(0, 1), (0, 2), (0, 3), (0, 4), (0, 5), (0, 6), (0, 7), (0, 8), (0, 9), (0, 10), (0, 11), (0, 12), (0, 13), (0, 14), (0, 15), (1, 2), (1, 3), (1, 4), (1, 5), (1, 6), (1, 7), (1, 8), (1, 9), (1, 10), (1, 11), (1, 12), (1, 13), (1, 14), (1, 15), (2, 3), (2, 4), (2, 5), (2, 6), (2, 7), (2, 8), (2, 9), (2, 10), (2, 11), (2, 12), (2, 13), (2, 14), (2, 15), (3, 4), (3, 5), (3, 6), (3, 7), (3, 8), (3, 9), (3, 10), (3, 11), (3, 12), (3, 13), (3, 14), (3, 15), (4, 5), (4, 6), (4, 7), (4, 8), (4, 9), (4, 10), (4, 11), (4, 12), (4, 13), (4, 14), (4, 15), (5, 6), (5, 7), (5, 8), (5, 9), (5, 10), (5, 11), (5, 12), (5, 13), (5, 14), (5, 15), (6, 7), (6, 8), (6, 9), (6, 10), (6, 11), (6, 12), (6, 13), (6, 14), (6, 15), (7, 8), (7, 9), (7, 10), (7, 11), (7, 12), (7, 13), (7, 14), (7, 15), (8, 9), (8, 10), (8, 11), (8, 12), (8, 13), (8, 14), (8, 15), (9, 10), (9, 11), (9, 12), (9, 13), (9, 14), (9, 15), (10, 11), (10, 12), (10, 13), (10, 14), (10, 15), (11, 12), (11, 13), (11, 14), (11, 15), (12, 13), (12, 14), (12, 15), (13, 14), (13, 15), (14, 15)]
def pe_pp : List Nat := [127, 135, 145, 156, 168, 182, 196, 211, 226, 243, 260, 279, 300, 321, 343, 136, 146, 157, 169, 183, 197, 212, 227, 244, 261, 280, 301, 322, 344, 147, 158, 170, 184, 198, 213, 228, 245, 262, 281, 302, 323, 345, 159, 171, 185, 199, 214, 229, 246, 263, 282, 303, 324, 346, 172, 186, 200, 215, 230, 247, 264, 283, 304, 325, 347, 187, 201, 216, 231, 248, 265, 284, 305, 326, 348, 202, 217, 232, 249, 266, 285, 306, 327, 349, 218, 233, 250, 267, 286, 307, 328, 350, 234, 251, 268, 287, 308, 329, 351, 252, 269, 288, 309, 330, 352, 270, 289, 310, 331, 353, 290, 311, 332, 354, 312, 333, 355, 334, 356, 357]
theorem pe_pin : pe_pr.map (fun q => Cond.not (Cond.eq (pe_ts q.1) (pe_ts q.2))) = pe_pp.filterMap (fun i => pe_fl[i]?) := by decide +kernel
def pe_has (i j : Nat) : Bool := pe_pr.any fun q => Nat.beq q.1 i && Nat.beq q.2 j
theorem pe_has_e {i j : Nat} (h : pe_has i j = true) : (i, j) ∈ pe_pr := by
  obtain ⟨q, h1, h2⟩ := List.any_eq_true.mp h
  rw [Bool.and_eq_true] at h2
  rw [← Nat.eq_of_beq_eq_true h2.1, ← Nat.eq_of_beq_eq_true h2.2]
  exact h1
theorem pe_pal0 : ((List.range pd_nJ).all fun i => (List.range pd_nJ).all fun j => Nat.beq i j || (pe_has i j || pe_has j i)) = true := by decide +kernel
theorem pe_pal (i : Nat) (hi : i < pd_nJ) (j : Nat) (hj : j < pd_nJ) (hn : i ≠ j) : (i, j) ∈ pe_pr ∨ (j, i) ∈ pe_pr := by
  have h := List.all_eq_true.mp (List.all_eq_true.mp pe_pal0 i (List.mem_range.mpr hi)) j (List.mem_range.mpr hj)
  rw [Bool.or_eq_true, Bool.or_eq_true] at h
  rcases h with h | h | h
  · exact absurd (Nat.eq_of_beq_eq_true h) hn
  · exact Or.inl (pe_has_e h)
  · exact Or.inr (pe_has_e h)
theorem pe_pof {q : Nat × Nat} (h : q ∈ pe_pr) : Cond.not (Cond.eq (pe_ts q.1) (pe_ts q.2)) ∈ pe_fl := by
  have h1 : Cond.not (Cond.eq (pe_ts q.1) (pe_ts q.2)) ∈ pe_pr.map (fun q => Cond.not (Cond.eq (pe_ts q.1) (pe_ts q.2))) := List.mem_map.mpr ⟨q, h, rfl⟩
  rw [pe_pin] at h1
  obtain ⟨i, -, hi⟩ := List.mem_filterMap.mp h1
  exact List.mem_of_getElem? hi
theorem pe_s3 (i : Nat) (hi : i < pd_nJ) (j : Nat) (hj : j < pd_nJ) (hn : i ≠ j) : Cond.not (Cond.eq (pe_ts i) (pe_ts j)) ∈ pe_fl ∨ Cond.not (Cond.eq (pe_ts j) (pe_ts i)) ∈ pe_fl := (pe_pal i hi j hj hn).imp pe_pof pe_pof
theorem pe_s4 : ∀ i, i < pd_nJ → Cond.stringRef (pd_str i).1 (pd_str i).2.1 (pd_str i).2.2 ∈ lw_tbl := by decide +kernel
theorem pe_l1 : ∀ k, k < pd_nS → Cond.laysStatic (pd_sv k).1 (pd_sv k).2.1 (pd_sv k).2.2 ∈ lw_tbl ∧ Cond.initialized (pd_sv k).1 ∈ lw_tbl := by decide +kernel
theorem pe_fix : ∀ i, i < pd_nJ → (List.range (pd_sb i).length).map (fun j => (pd_sb i).getD j 0) = pd_sb i := by decide +kernel
section
variable {s : State} {b L : Nat} {xs : Nat → Int32}
theorem pe_tabs (hts : ∀ w ∈ lw_tbl, w.before #[.ref b] s = true) (hg : ∀ w ∈ pe_fl, w.before #[.ref b] s = true) : ∃ tA : Nat → Nat, ∀ k, k < pe_nT + 1 → 1 ≤ k → (pe_tm k).eval #[.ref b] s none [] s = some (.ref (tA k)) ∧ va_T .int (tA k) (pd_tab k).length (fun j => .int ((pd_tab k).getD j 0)) (fun q => s.heap.size ≤ q) s s.heap ∧ ∃ cell : Cell, s.heap[tA k]? = some cell ∧ s.vm.findClass "[I" = some cell.cls ∧ cell.slots.size = (pd_tab k).length := by
  have h0 : ∀ k : Nat, ∃ t : Nat, k < pe_nT + 1 → 1 ≤ k → (pe_tm k).eval #[.ref b] s none [] s = some (.ref t) ∧ va_T .int t (pd_tab k).length (fun j => .int ((pd_tab k).getD j 0)) (fun q => s.heap.size ≤ q) s s.heap ∧ ∃ cell : Cell, s.heap[t]? = some cell ∧ s.vm.findClass "[I" = some cell.cls ∧ cell.slots.size = (pd_tab k).length := by
    intro k
    by_cases hk : k < pe_nT + 1
    · by_cases h1 : 1 ≤ k
      · obtain ⟨a1, a2, a3⟩ := pe_a1 k hk h1
        have hlen : (pd_tab k).length < 2 ^ 31 := by
          have : ∀ k, k < pe_nT + 1 → (pd_tab k).length < 2 ^ 31 := by decide +kernel
          exact this k hk
        have hl := va_eqt (hg _ a2)
        obtain ⟨t, ht, hT⟩ := va_Tof (f := fun j => .int ((pd_tab k).getD j 0)) (A := fun q => s.heap.size ≤ q) hlen (hg _ a1) hl (fun j hj => va_eqt (hg _ (pe_a2 k hk h1 j hj))) (fun a h => Nat.not_le.mpr h)
        refine ⟨t, fun _ _ => ⟨ht, hT, ?_⟩⟩
        obtain ⟨a, cC, cell, kC, q1, q2, q3, q4, q5, q6, -⟩ := Cond.exactly_spec (args := #[.ref b]) (first := s) (o := none) (s := s) (idx := []) (t := pe_tm k) (cls := "[I") (hg _ a3)
        cases ht.symm.trans q1
        refine ⟨cell, q3, by rw [q6]; exact q2, ?_⟩
        obtain ⟨cell2, u1, u2, u3, u4, u5, u6⟩ := hT
        cases u1.symm.trans q3
        have hsz : cell.slots.size < 2 ^ 31 := by
          have hat : s.arrayAt? t = some cell := by
            obtain ⟨a', cell', g1, g2, -⟩ := Term.length_spec hl
            cases ht.symm.trans g1
            have := (State.arrayAt?_spec g2).1
            cases q3.symm.trans this
            exact g2
          apply Classical.byContradiction
          intro hn
          have h2 := hl
          simp [Term.eval, ht, hat, hn] at h2
        have e1 : (Int32.ofNat cell.slots.size) = Int32.ofNat (pd_tab k).length := u5
        have := (nI_eq hsz hlen).mp e1
        exact this
      · exact ⟨0, fun _ z => absurd z h1⟩
    · exact ⟨0, fun z => absurd z hk⟩
  obtain ⟨tA, h⟩ := Classical.axiomOfChoice h0
  exact ⟨tA, h⟩
theorem pe_strs (hg : ∀ w ∈ pe_fl, w.before #[.ref b] s = true) : ∃ adK adV : Nat → Nat, vk_S pd_nJ ((List.range pd_nJ).map fun i => (pd_sb i).length) ((List.range pd_nJ).map pd_sb) adK adV (fun q => s.heap.size ≤ q) s s.heap ∧ ∀ i, i < pd_nJ → (pe_ts i).eval #[.ref b] s none [] s = some (.ref (adK i)) := by
  have gl : ∀ i, i < pd_nJ → ((List.range pd_nJ).map fun i => (pd_sb i).length).getD i 0 = (pd_sb i).length := fun i hi => by simp [List.getD_eq_getElem?_getD, List.getElem?_map, List.getElem?_range hi]
  have gb : ∀ i, i < pd_nJ → ((List.range pd_nJ).map pd_sb).getD i [] = pd_sb i := fun i hi => by simp [List.getD_eq_getElem?_getD, List.getElem?_map, List.getElem?_range hi]
  exact vk_Sof (tm := pe_ts) (fun i hi => by rw [gl i hi]; exact (pe_s1 i hi).1) (fun i hi => hg _ (pe_s1 i hi).2.1) (fun i hi => hg _ (pe_s1 i hi).2.2.1) (fun i hi => hg _ (pe_s1 i hi).2.2.2.1) (fun i hi => by rw [gl i hi]; exact hg _ (pe_s1 i hi).2.2.2.2) (fun i hi j hj => by rw [gl i hi] at hj; rw [gb i hi]; exact hg _ (pe_s2 i hi j hj)) (fun i j hi hj hn => (pe_s3 i hi j hj hn).imp (hg _) (hg _)) (fun a h => Nat.not_le.mpr h)
theorem pe_arr {ty : FieldType} (hp : ty = .int ∨ ty = .boolean ∨ ty = .long) (h : (Cond.arrayClass ty).before #[.ref b] s = true) : ∃ cA, ArrOfT s cA ty ∧ va_RA s cA ty := by
  obtain ⟨cA, kA, comp, h1, h2, h3⟩ := Cond.arrayClass_spec (args := #[.ref b]) (first := s) (o := none) (s := s) (idx := []) h
  refine ⟨cA, fun n z => ⟨fun k h => (by cases h), kA, h2, comp, h3⟩, ?_⟩
  rcases hp with rfl | rfl | rfl <;> exact h1
theorem pe_arq {C : String} (h : (Cond.arrayOver (.object C)).before #[.ref b] s = true) : ∃ cA, ArrOfT s cA (.object C) ∧ va_RA s cA (.object C) := by
  obtain ⟨comp, cA, kA, h1, -, h2, h3, h4⟩ := Cond.arrayOver_spec (args := #[.ref b]) (first := s) (o := none) (s := s) (idx := []) h
  exact ⟨cA, fun n z => ⟨fun k h => (by cases h), kA, h2, comp, h3⟩, kA, comp, h2, h3, h1, h4⟩
theorem pe_ao15 : Cond.arrayOver (.object (pd_R 11)) ∈ lw_tbl := pf_seg1 _ (List.mem_of_getElem? (i := 150) rfl)
theorem pe_ao9 : Cond.arrayOver (.object (pd_R 5)) ∈ lw_tbl := pf_seg1 _ (List.mem_of_getElem? (i := 227) rfl)
theorem pe_i1 : Cond.eq (.static (pd_sv 1).1 (pd_sv 1).2.1 (pd_sv 1).2.2) (.int (1)) ∈ pe_fl := by decide +kernel
theorem pe_i3 : Cond.eq (.static (pd_sv 3).1 (pd_sv 3).2.1 (pd_sv 3).2.2) (.int (1)) ∈ pe_fl := by decide +kernel
theorem pe_i4 : Cond.eq (.static (pd_sv 4).1 (pd_sv 4).2.1 (pd_sv 4).2.2) (.int (0)) ∈ pe_fl := by decide +kernel
theorem pe_i5 : Cond.eq (.static (pd_sv 5).1 (pd_sv 5).2.1 (pd_sv 5).2.2) (.int (8)) ∈ pe_fl := by decide +kernel
theorem pe_odd : Cond.isRef (.static (pd_sv 2).1 (pd_sv 2).2.1 (pd_sv 2).2.2) ∈ pe_fl := by decide +kernel
theorem pe_env (hts : ∀ w ∈ lw_tbl, w.before #[.ref b] s = true) (hX : va_X b L xs s s.heap) (hbl : b < s.heap.size) (hL : L ≤ 2560) (hgv : (Jvm.Cond.and given_1 narrow_1).before #[.ref b] s = true) : ∃ X : ps_X, X.1 = s.heap.size ∧ ps_ro X = pe_ro L xs ∧ X.2.1 0 = b ∧ ps_Env X s s.heap := by
  have hg : ∀ w ∈ pe_fl, w.before #[.ref b] s = true := flat_of_before _ hgv
  have hA : ∀ a : Nat, a < s.heap.size → ¬ (fun q => s.heap.size ≤ q) a := fun a h => Nat.not_le.mpr h
  obtain ⟨tA, hT⟩ := pe_tabs hts hg
  obtain ⟨adK, adV, ⟨hS, hinj⟩, hev⟩ := pe_strs hg
  have gl : ∀ i, i < pd_nJ → ((List.range pd_nJ).map fun i => (pd_sb i).length).getD i 0 = (pd_sb i).length := fun i hi => by simp [List.getD_eq_getElem?_getD, List.getElem?_map, List.getElem?_range hi]
  have gb : ∀ i, i < pd_nJ → ((List.range pd_nJ).map pd_sb).getD i [] = pd_sb i := fun i hi => by simp [List.getD_eq_getElem?_getD, List.getElem?_map, List.getElem?_range hi]
  obtain ⟨nv, hnv, hodd⟩ : ∃ nv : Value, (nv = .null ∨ ∃ t, nv = .ref t) ∧ va_Z (pd_sv 2).1 (pd_sv 2).2.1 (pd_sv 2).2.2 nv (fun q => s.heap.size ≤ q) s s.heap := by
    rcases va_Zqof (hts _ (pe_l1 2 (by decide)).1) (hts _ (pe_l1 2 (by decide)).2) (hg _ pe_odd) hA with h | ⟨t, h⟩
    · exact ⟨_, Or.inl rfl, h⟩
    · exact ⟨_, Or.inr ⟨t, rfl⟩, h⟩
  have hcl : ∀ c : Nat, ∃ q : ClassId × (Nat → Nat), c < pd_nC → u_Kn s (pd_R c) (pd_T c) (pd_N c) q.1 q.2 := by
    intro c
    by_cases hc : c < pd_nC
    · obtain ⟨c1, i1, h⟩ := u_known hts (pf_l c hc) (hts _ (pf_is_in hc))
      exact ⟨(c1, i1), fun _ => h⟩
    · exact ⟨(0, fun _ => 0), fun z => absurd z hc⟩
  obtain ⟨dq, hdq⟩ := Classical.axiomOfChoice hcl
  have har : ∀ t : Nat, ∃ cA : ClassId, t ∈ pd_tl → ArrOfT s cA (ps_ty t) ∧ va_RA s cA (ps_ty t) := by
    intro t
    by_cases ht : t ∈ pd_tl
    · have ht2 := ht
      simp only [pd_tl, List.mem_cons, List.not_mem_nil, or_false] at ht2
      rcases ht2 with rfl | rfl | rfl | rfl | rfl
      · obtain ⟨cA, h⟩ := pe_arr (Or.inl rfl) (hts _ pf_ac_int)
        exact ⟨cA, fun _ => h⟩
      · obtain ⟨cA, h⟩ := pe_arr (Or.inr (Or.inl rfl)) (hts _ pf_ac_boolean)
        exact ⟨cA, fun _ => h⟩
      · obtain ⟨cA, h⟩ := pe_arr (Or.inr (Or.inr rfl)) (hts _ pf_ac_long)
        exact ⟨cA, fun _ => h⟩
      · obtain ⟨cA, h⟩ := pe_arq (hts _ pe_ao15)
        exact ⟨cA, fun _ => h⟩
      · obtain ⟨cA, h⟩ := pe_arq (hts _ pe_ao9)
        exact ⟨cA, fun _ => h⟩
    · exact ⟨0, fun z => absurd z ht⟩
  obtain ⟨dA, hdA⟩ := Classical.axiomOfChoice har
  refine ⟨(s.heap.size, fun i => if i = 0 then b else if i ≤ pe_nT then tA i else if i < 24 then adK (i - 8) else adV (i - 24), nv, dA, (fun c => (dq c).1, fun c => (dq c).2), pe_ro L xs), rfl, rfl, rfl, ?_⟩
  refine ⟨⟨?_, ?_⟩, ?_, ?_, ?_, ?_, ?_, ?_, hnv, ?_, rfl⟩
  · intro c q hq
    have hc : c < pd_nC := by
      have := (List.getElem?_eq_some_iff.mp hq).1
      simpa [pd_cl] using this
    rw [ps_cl hc] at hq
    cases hq
    exact hdq c hc
  · intro j q hq
    simp only [ps_tys, List.getElem?_map, Option.map_eq_some_iff] at hq
    obtain ⟨t, h1, rfl⟩ := hq
    exact hdA t (List.mem_of_getElem? h1)
  · intro i hi h2
    by_cases h0 : i = 0
    · subst h0
      obtain ⟨scr, x1, x2, x3, x4, x5⟩ := hX
      refine ⟨⟨scr, x1, x2, x3, ?_, ?_, x5, Nat.not_le.mpr hbl⟩, fun _ z => absurd z (by decide)⟩
      · rw [x4]; exact Nat.le_refl _
      · show scr.slots.size.toInt32 = Int32.ofNat L
        rw [x4]
    · by_cases h1 : i ≤ pe_nT
      · obtain ⟨t1, t2, t3⟩ := hT i (Nat.lt_succ_of_le h1) (by omega)
        have er : ps_ro (s.heap.size, fun i => if i = 0 then b else if i ≤ pe_nT then tA i else if i < 24 then adK (i - 8) else adV (i - 24), nv, dA, (fun c => (dq c).1, fun c => (dq c).2), pe_ro L xs) i = ((2, 0, (pd_tab i).length), fun j => (pd_tab i).getD j 0, fun _ => none) := by
          show pe_ro L xs i = _
          rw [pe_ro, if_neg h0, if_pos h1]
        rw [er]
        show va_T .int (if i = 0 then b else if i ≤ pe_nT then tA i else _) _ _ _ _ _ ∧ ps_ex 0 i _ (if i = 0 then b else if i ≤ pe_nT then tA i else _) _ _
        rw [if_neg h0, if_pos h1]
        exact ⟨t2, fun _ _ => t3⟩
      · by_cases h3 : 8 ≤ i ∧ i < 8 + pd_nJ
        · exfalso
          have : (pe_ro L xs i).1.1 = 2 := h2
          rw [pe_ro, if_neg h0, if_neg h1, if_pos h3] at this
          cases this
        · by_cases h4 : 24 ≤ i ∧ i < 24 + pd_nJ
          · have er : ps_ro (s.heap.size, fun i => if i = 0 then b else if i ≤ pe_nT then tA i else if i < 24 then adK (i - 8) else adV (i - 24), nv, dA, (fun c => (dq c).1, fun c => (dq c).2), pe_ro L xs) i = ((2, 3, (pd_sb (i - 24)).length), fun j => (pd_sb (i - 24)).getD j 0, fun _ => none) := by
              show pe_ro L xs i = _
              rw [pe_ro, if_neg h0, if_neg h1, if_neg h3, if_pos h4]
            rw [er]
            show va_T .byte (if i = 0 then b else if i ≤ pe_nT then tA i else if i < 24 then adK (i - 8) else adV (i - 24)) _ _ _ _ _ ∧ ps_ex 3 i _ _ _ _
            rw [if_neg h0, if_neg h1, if_neg (by omega)]
            have hi4 : i - 24 < pd_nJ := by omega
            have := (hS (i - 24) hi4).2.2.2
            rw [gl _ hi4, gb _ hi4] at this
            exact ⟨this, fun z => by cases z⟩
          · exfalso
            have : (pe_ro L xs i).1.1 = 2 := h2
            rw [pe_ro, if_neg h0, if_neg h1, if_neg h3, if_neg h4] at this
            cases this
  · intro i hi h2
    have h2 : (pe_ro L xs i).1.1 = 3 := h2
    have h3 : ¬ i = 0 ∧ ¬ i ≤ pe_nT ∧ (8 ≤ i ∧ i < 8 + pd_nJ) := by
      refine ⟨fun z => ?_, fun z => ?_, ?_⟩
      · rw [pe_ro, if_pos z] at h2; cases h2
      · by_cases h0 : i = 0
        · rw [pe_ro, if_pos h0] at h2; cases h2
        · rw [pe_ro, if_neg h0, if_pos z] at h2; cases h2
      · apply Classical.byContradiction
        intro z
        unfold pe_ro at h2
        split at h2
        · cases h2
        · split at h2
          · cases h2
          · split at h2 <;> cases h2
    obtain ⟨n0, n1, n2⟩ := h3
    have hi8 : i - 8 < pd_nJ := by omega
    have hj : pd_nJ ≤ 16 := by decide
    obtain ⟨s1, s2, s3, s4⟩ := hS (i - 8) hi8
    have er : ps_ro (s.heap.size, fun i => if i = 0 then b else if i ≤ pe_nT then tA i else if i < 24 then adK (i - 8) else adV (i - 24), nv, dA, (fun c => (dq c).1, fun c => (dq c).2), pe_ro L xs) i = ((3, i - 8, 0), fun _ => 0, fun k => if k = 0 then some (i + 16) else none) := by
      show pe_ro L xs i = _
      rw [pe_ro, if_neg n0, if_neg n1, if_pos n2]
    rw [er]
    show va_O _ (if i = 0 then b else if i ≤ pe_nT then tA i else if i < 24 then adK (i - 8) else adV (i - 24)) _ _ _ ∧ va_OF _ _ _ _ (if i = 0 then b else if i ≤ pe_nT then tA i else if i < 24 then adK (i - 8) else adV (i - 24)) _ _ _ ∧ ∃ q, (if 0 = 0 then some (i + 16) else none) = some q ∧ q < pm_NR ∧ va_OF _ _ _ (.ref (if q = 0 then b else if q ≤ pe_nT then tA q else if q < 24 then adK (q - 8) else adV (q - 24))) (if i = 0 then b else if i ≤ pe_nT then tA i else if i < 24 then adK (i - 8) else adV (i - 24)) _ _ _
    rw [if_neg n0, if_neg n1, if_pos (show i < 24 by omega)]
    refine ⟨s1, s2, i + 16, by simp, by show i + 16 < 48; omega, ?_⟩
    rw [if_neg (by omega), if_neg (by have : pe_nT ≤ 7 := by decide
                                      omega), if_neg (by omega), show i + 16 - 24 = i - 8 by omega]
    exact s3
  · intro j hj
    have hj16 : pd_nJ ≤ 16 := by decide
    have n7 : pe_nT ≤ 7 := by decide
    show vk_R _ _ _ (if 8 + j = 0 then b else if 8 + j ≤ pe_nT then tA (8 + j) else if 8 + j < 24 then adK (8 + j - 8) else adV (8 + j - 24)) s
    rw [if_neg (by omega), if_neg (by omega), if_pos (by omega), show 8 + j - 8 = j by omega]
    exact vk_R.of (hts _ (pe_s4 j hj)) (hev j hj)
  · intro k hk
    have hk : k < 12 := hk
    match k, hk with
    | 0, _ => exact va_Zref (hts _ (pe_l1 0 (by decide)).1) (hts _ (pe_l1 0 (by decide)).2) (hT 1 (by decide) (by decide)).1 hA
    | 1, _ => exact va_Zof (hts _ (pe_l1 1 (by decide)).1) (hts _ (pe_l1 1 (by decide)).2) (va_eqi (hg _ pe_i1)) hA
    | 2, _ => exact hodd
    | 3, _ => exact va_Zof (hts _ (pe_l1 3 (by decide)).1) (hts _ (pe_l1 3 (by decide)).2) (va_eqi (hg _ pe_i3)) hA
    | 4, _ => exact va_Zof (hts _ (pe_l1 4 (by decide)).1) (hts _ (pe_l1 4 (by decide)).2) (va_eqi (hg _ pe_i4)) hA
    | 5, _ => exact va_Zof (hts _ (pe_l1 5 (by decide)).1) (hts _ (pe_l1 5 (by decide)).2) (va_eqi (hg _ pe_i5)) hA
    | 6, _ => exact va_Zref (hts _ (pe_l1 6 (by decide)).1) (hts _ (pe_l1 6 (by decide)).2) (hT 2 (by decide) (by decide)).1 hA
    | 7, _ => exact va_Zref (hts _ (pe_l1 7 (by decide)).1) (hts _ (pe_l1 7 (by decide)).2) (hT 3 (by decide) (by decide)).1 hA
    | 8, _ => exact va_Zref (hts _ (pe_l1 8 (by decide)).1) (hts _ (pe_l1 8 (by decide)).2) (hT 4 (by decide) (by decide)).1 hA
    | 9, _ => exact va_Zref (hts _ (pe_l1 9 (by decide)).1) (hts _ (pe_l1 9 (by decide)).2) (hT 5 (by decide) (by decide)).1 hA
    | 10, _ => exact va_Zref (hts _ (pe_l1 10 (by decide)).1) (hts _ (pe_l1 10 (by decide)).2) (hT 6 (by decide) (by decide)).1 hA
    | 11, _ => exact va_Zref (hts _ (pe_l1 11 (by decide)).1) (hts _ (pe_l1 11 (by decide)).2) (hT 7 (by decide) (by decide)).1 hA
    | k + 12, hk => exact absurd hk (by omega)
  · intro w hw hn
    have := hts w hw
    cases w <;> first | exact va_Nw.of rfl this | cases hn
  · intro t ht h4
    simp only [pd_tl, List.mem_cons, List.not_mem_nil, or_false] at ht
    rcases ht with rfl | rfl | rfl | rfl | rfl
    · exact absurd h4 (by decide)
    · exact absurd h4 (by decide)
    · exact absurd h4 (by decide)
    · exact va_AO.of (hts _ pe_ao15)
    · exact va_AO.of (hts _ pe_ao9)
  · intro i hi
    show (pe_ro L xs i).1 = (0, 0, 0) ∨ ((pe_ro L xs i).1.1 = 2 ∧ ((pe_ro L xs i).1.2.1 = 0 ∨ (pe_ro L xs i).1.2.1 = 3)) ∨ (pe_ro L xs i).1.1 = 3
    unfold pe_ro
    split
    · exact Or.inr (Or.inl ⟨rfl, Or.inl rfl⟩)
    · split
      · exact Or.inr (Or.inl ⟨rfl, Or.inl rfl⟩)
      · split
        · exact Or.inr (Or.inr rfl)
        · split
          · exact Or.inr (Or.inl ⟨rfl, Or.inr rfl⟩)
          · exact Or.inl rfl
end
