/-! what makes cells; arraycopy -/
section
variable {p : Program} {l : Launch} {e : Env} {R : Room} {s : State} {m : MethodId} {args : Array Value} {below : List Frame} {meth : Method} {c : Code} {Q : State → Prop} {X : ps_X} {k cE sE : Nat} {x : Option Value × pm_H} {kk : pm_K} {call : Nat → List Value → pm_H → pm_R} {a b cc : Nat} {v : Value} {tg : List Nat} {i : Nat} {ls st : List Value} {h : pm_H}
theorem pf_ac_int : Cond.arrayClass .int ∈ lw_tbl := pf_seg1 _ (List.mem_of_getElem? (i := 58) rfl)
theorem pf_ac_boolean : Cond.arrayClass .boolean ∈ lw_tbl := pf_seg1 _ (List.mem_of_getElem? (i := 107) rfl)
theorem pf_ac_long : Cond.arrayClass .long ∈ lw_tbl := pf_seg1 _ (List.mem_of_getElem? (i := 226) rfl)
theorem pf_cl1 : Cond.sameMethod "[I" "java/lang/Object" "clone" "()Ljava/lang/Object;" ∈ lw_tbl := pf_seg1 _ (List.mem_of_getElem? (i := 68) rfl)
theorem pf_cl2 : Cond.native ⟨"java/lang/Object", "clone", "()Ljava/lang/Object;"⟩ ∈ lw_tbl := pf_seg1 _ (List.mem_of_getElem? (i := 69) rfl)
theorem pf_cl3 : Cond.instanceMethod ⟨"java/lang/Object", "clone", "()Ljava/lang/Object;"⟩ ∈ lw_tbl := pf_seg1 _ (List.mem_of_getElem? (i := 70) rfl)
theorem pf_cl4 : Cond.selects "[I" ⟨"[I", "clone", "()Ljava/lang/Object;"⟩ ⟨"java/lang/Object", "clone", "()Ljava/lang/Object;"⟩ ∈ lw_tbl := pf_seg1 _ (List.mem_of_getElem? (i := 71) rfl)
theorem pf_cl5 : Cond.castable "[I" "java/lang/Cloneable" ∈ lw_tbl := pf_seg1 _ (List.mem_of_getElem? (i := 72) rfl)
theorem pf_cp1 : Cond.native arraycopyName ∈ lw_tbl := pf_seg3 _ (List.mem_of_getElem? (i := 31) rfl)
theorem pf_cp2 : Cond.static arraycopyName ∈ lw_tbl := pf_seg3 _ (List.mem_of_getElem? (i := 30) rfl)
theorem pf_cp3 : Cond.initialized "java/lang/System" ∈ lw_tbl := pf_seg1 _ (List.mem_of_getElem? (i := 14) rfl)
theorem W.size {H : Heap} {locs : List Loc} {cells slots : Nat} {g : JFrame} (kk : H.size ≤ s.heap.size + cells → W p l e R s m args below meth c H locs cells slots Q g) : W p l e R s m args below meth c H locs cells slots Q g := fun T hT X => kk (by have h := X.same.2.2.1; rw [← hT]; exact h) T hT X
theorem ps_newat {H H1 : Heap} {q : Nat} {y : va_E} (hw : ps_W X h H) (hP : va_P X.2.2.2.2.1 pd_cl (ps_ws X h ++ [(q, y)]) H1) (hD : va_D (ps_A X) (ps_ws X h ++ [(q, y)])) (hb : H1.size ≤ X.1 + (h.1.1 + 1 - pm_NR)) : q = X.1 + (h.1.1 - pm_NR) := by
  have hlen : (ps_ws X h).length = h.1.1 - pm_NR := ps_ws_len
  have hn := hw.1
  have hq : (ps_ws X h ++ [(q, y)])[h.1.1 - pm_NR]? = some (q, y) := by
    rw [List.getElem?_append_right (by omega), hlen]
    simp
  have h1 : q < H1.size := (hP _ _ hq).lt
  have h2 : X.1 ≤ q := hD.2 _ _ hq
  apply Classical.byContradiction
  intro hne
  have hlt : q - X.1 < h.1.1 - pm_NR := by omega
  have hj : (ps_ws X h ++ [(q, y)])[q - X.1]? = some (X.1 + (q - X.1), ps_E X h (pm_NR + (q - X.1))) := by
    rw [List.getElem?_append_left (by omega)]
    simp [ps_ws, List.getElem?_map, List.getElem?_range hlt]
  have := hD.1 _ _ _ _ hj hq (by show X.1 + (q - X.1) = q; omega)
  omega
theorem ps_push {h' : pm_H} {H H1 : Heap} {kq : Nat × Nat × Nat} {y : va_E} (hw : ps_W X h H) (e1 : h'.1.1 = h.1.1 + 1) (hk : ∀ j, pm_kd h' j = if j = h.1.1 then kq else pm_kd h j) (ho : ∀ j, j ≠ h.1.1 → h'.2.1 j = h.2.1 j ∧ h'.2.2.1 j = h.2.2.1 j ∧ h'.2.2.2 j = h.2.2.2 j) (hwf : ps_wf kq) (hy : y = ps_E X h' h.1.1) (hP : va_P X.2.2.2.2.1 pd_cl (ps_ws X h ++ [(X.1 + (h.1.1 - pm_NR), y)]) H1) : ps_W X h' H1 := by
  have hEo : ∀ j, j ≠ h.1.1 → pm_NR ≤ j → ps_E X h' j = ps_E X h j := by
    intro j hj _
    obtain ⟨a1, a2, a3⟩ := ho j hj
    unfold ps_E ps_fs ps_el
    rw [hk j, if_neg hj]
    have hf : ∀ c, ps_fv X h' j c = ps_fv X h j c := fun c => by
      funext k
      unfold ps_fv
      rw [a1, a2, a3]
    rw [hf, a1, a2, a3]
  obtain ⟨w1, w2, w3, w4, w5, w6⟩ := hw
  refine ⟨by omega, trivial, ?_, fun i a b => ?_, fun i a => ?_, fun i a => ?_⟩
  · rw [← ps_ws_push w1 e1 hEo, ← hy]
    exact hP
  · rw [hk]
    by_cases hi : i = h.1.1
    · rw [if_pos hi]; exact hwf
    · rw [if_neg hi]; exact w4 i a (by omega)
  · rw [hk, if_neg (by omega)]
    exact w5 i (by omega)
  · have hi : i ≠ h.1.1 := by omega
    obtain ⟨a1, a2, a3⟩ := ho i hi
    rw [hk, if_neg hi, a1, a3]
    exact w6 i a
theorem ps_new_o (q : Nat × Nat × Nat) (w : Nat) : ∀ j, j ≠ h.1.1 → (pm_new h q w).2.1 j = h.2.1 j ∧ (pm_new h q w).2.2.1 j = h.2.2.1 j ∧ (pm_new h q w).2.2.2 j = h.2.2.2 j := fun j hj => by simp [pm_new, pm_up, hj]
theorem ps_new_k (q : Nat × Nat × Nat) (w : Nat) : ∀ j, pm_kd (pm_new h q w) j = if j = h.1.1 then q else pm_kd h j := fun j => rfl
theorem ps_new_v (hn : pm_NR ≤ h.1.1) : ps_v X (.ref h.1.1) = .ref (X.1 + (h.1.1 - pm_NR)) := by
  have h40 : ¬ h.1.1 = 40 := by have : 48 ≤ h.1.1 := hn; omega
  rw [show ps_v X (.ref h.1.1) = .ref (ps_ad X h.1.1) from if_neg h40, ps_ad_own hn]
theorem pf_in_in {c : Nat} (hc : c < pd_nC) : Cond.initialized (pd_R c) ∈ lw_tbl := pf_in _ (pf_init c hc)
theorem pf_is_in {c : Nat} (hc : c < pd_nC) : Cond.instantiable (pd_R c) (pd_N c) ∈ lw_tbl := pf_is _ (pf_inst c hc)
theorem ps_new {n : Nat} (hC : cE ≤ R.cells ∧ sE ≤ R.slots) (hz : s.heap.size + cE = X.1 + (x.2.1.1 - pm_NR)) (hF : ps_F p s m args meth c k X) (hk : ∀ i ls st h, kk i ls st h = some x → ps_G p l e R s m args below meth c Q X k cE sE x i ls st h) (hok : pf_ok (pd_mm k) (pd_pcs k) (pd_pc k i) (pd_pc k (i + 1)) (.new n, a, b, cc, v, tg) = true) (h0 : pm_sem (.new n) a b cc v tg i kk call ls st h = some x) : ps_G p l e R s m args below meth c Q X k cE sE x i ls st h := by
  obtain ⟨hx, hb, hF⟩ := hF
  obtain ⟨hd, hn, hc⟩ := ps_ok (by intro q; cases q) hok
  dsimp only [pm_sem] at h0
  obtain ⟨hml, hown, hret, hnm, hts, hE, hz0, -⟩ := hF
  have hA : ∀ q, s.heap.size ≤ q → ps_A X q := fun q hq => Nat.le_trans hz0 hq
  have hc : (Nat.ble (a + 1) pd_nC && (Nat.beq b (pd_N a) && decide (pd_pw (pm_at 0 tg 0) = .classLink (pd_mm k).1.cls n (pd_R a)))) = true := hc
  simp only [Bool.and_eq_true] at hc
  have ha : a < pd_nC := Nat.le_of_ble_eq_true hc.1
  have hbN : b = pd_N a := Nat.eq_of_beq_eq_true hc.2.1
  have hp := of_decide_eq_true hc.2.2
  subst hbN
  obtain ⟨⟨g1, g2⟩, gW⟩ := hk _ _ _ _ h0
  have g1 : h.1.1 + 1 ≤ x.2.1.1 := g1
  have g2 : h.1.2.1 + pd_N a ≤ x.2.1.2.1 := g2
  refine ⟨⟨by omega, by omega⟩, fun H locs lsM cells slots q1 q2 hw hl hs => ?_⟩
  have hfs : ∀ j, j < pd_N a → defaultValue (pd_Y a j) = vp_V (ps_fs X (pm_new h (1, a, 0) (pd_N a)) h.1.1 a) j := by
    intro j hj
    show _ = (ps_fs X (pm_new h (1, a, 0) (pd_N a)) h.1.1 a).getD j .null
    rw [List.getD_eq_getElem?_getD, ps_fs_at hj, Option.getD_some]
    unfold ps_fv
    rcases ps_tc3 (pd_Y a j) with e0 | e0 | e0 | e0 <;> rw [e0]
    · rw [pf_ty_of.1 e0]; simp [pm_new, pm_up, defaultValue]
    · rw [pf_ty_of.2.1 e0]; simp [pm_new, pm_up, defaultValue]
    · rw [pf_ty_of.2.2 e0]; simp [pm_new, pm_up, defaultValue]
    · have hr := pf_refs a ha j hj e0
      have hnull : defaultValue (pd_Y a j) = .null := by
        generalize pd_Y a j = ty at hr
        cases ty <;> first | rfl | cases hr
      rw [hnull]
      simp [pm_new, pm_up, va_rf]
  refine va_new hx hb hts (pf_lays a ha) (pd_Y a) (pf_fty a ha) hown (hts _ (pf_good (pf_pw_in hp (fun z => by cases z)) rfl)) (hts _ (pf_good (pf_is_in ha) rfl)) (hts _ (pf_good (pf_in_in ha) rfl)) hE.1 hw.2.2.1 (ps_D X h) hs hA (ps_cl ha) hfs (by omega) (by omega) hd (fun q H1 hP hD hs1 => ?_)
  refine W.size (fun hsz => ?_)
  obtain rfl := ps_newat hw hP hD (by have := hw.1; omega)
  have hw' : ps_W X (pm_new h (1, a, 0) (pd_N a)) H1 := ps_push hw rfl (ps_new_k _ _) (ps_new_o _ _) (Or.inl ⟨rfl, ha⟩) (by rw [ps_E_obj (by rw [ps_new_k, if_pos rfl]), ps_new_k, if_pos rfl]) hP
  have K := gW H1 locs lsM (cells + 1) (slots + pd_N a) (by show cells + 1 + (x.2.1.1 - (h.1.1 + 1)) = cE; omega) (by show slots + pd_N a + (x.2.1.2.1 - (h.1.2.1 + pd_N a)) = sE; omega) hw' hl hs1
  rw [hn] at K
  have K : W p l e R s m args below meth c H1 locs (cells + 1) (slots + pd_N a) Q (F0 m _ lsM (ps_v X (.ref h.1.1) :: st.map (ps_v X))) := K
  rw [ps_new_v hw.1] at K
  exact K

theorem ps_newa_K {y : Int32} {t : List Value} {a : Nat} (hC : cE ≤ R.cells ∧ sE ≤ R.slots) (hz : s.heap.size + cE = X.1 + (x.2.1.1 - pm_NR)) {pc : Nat} (hG : ps_G p l e R s m args below meth c Q X k cE sE x (i + 1) ls (.ref h.1.1 :: t) (pm_new h (2, a, y.toNatClampNeg) y.toNatClampNeg)) : (h.1.1 ≤ x.2.1.1 ∧ h.1.2.1 ≤ x.2.1.2.1) ∧ ∀ (H : Heap) (locs : List Loc) (lsM : Array Slot) (cells slots : Nat), cells + (x.2.1.1 - h.1.1) = cE → slots + (x.2.1.2.1 - h.1.2.1) = sE → ps_W X h H → ps_L X lsM (pd_mm k).2.2.1 ls → (cells + 1 ≤ R.cells ∧ slots + y.toNatClampNeg ≤ R.slots) ∧ ∀ (q : Nat) (cA : ClassId) (H1 : Heap), cA = X.2.2.2.1 a → a ∈ pd_tl → va_P X.2.2.2.2.1 pd_cl (ps_ws X h ++ [(q, .inl (cA, y.toNatClampNeg, ps_el X (pm_new h (2, a, y.toNatClampNeg) y.toNatClampNeg) h.1.1 a))]) H1 → va_D (ps_A X) (ps_ws X h ++ [(q, .inl (cA, y.toNatClampNeg, ps_el X (pm_new h (2, a, y.toNatClampNeg) y.toNatClampNeg) h.1.1 a))]) → va_S (ps_A X) s.heap H1 locs → W p l e R s m args below meth c H1 locs (cells + 1) (slots + y.toNatClampNeg) Q (F0 m (pd_pc k (i + 1)) lsM (.ref q :: t.map (ps_v X))) := by
  obtain ⟨⟨g1, g2⟩, gW⟩ := hG
  have g1 : h.1.1 + 1 ≤ x.2.1.1 := g1
  have g2 : h.1.2.1 + y.toNatClampNeg ≤ x.2.1.2.1 := g2
  refine ⟨⟨by omega, by omega⟩, fun H locs lsM cells slots q1 q2 hw hl => ⟨⟨by omega, by omega⟩, fun q cA H1 hcA hat hP hD hs1 => ?_⟩⟩
  refine W.size (fun hsz => ?_)
  obtain rfl := ps_newat hw hP hD (by have := hw.1; omega)
  subst hcA
  have hw' : ps_W X (pm_new h (2, a, y.toNatClampNeg) y.toNatClampNeg) H1 := ps_push hw rfl (ps_new_k _ _) (ps_new_o _ _) (Or.inr ⟨rfl, hat⟩) (by rw [ps_E_arr (by rw [ps_new_k, if_pos rfl]), ps_new_k, if_pos rfl]) hP
  have K := gW H1 locs lsM (cells + 1) (slots + y.toNatClampNeg) (by show cells + 1 + (x.2.1.1 - (h.1.1 + 1)) = cE; omega) (by show slots + y.toNatClampNeg + (x.2.1.2.1 - (h.1.2.1 + y.toNatClampNeg)) = sE; omega) hw' hl hs1
  have K : W p l e R s m args below meth c H1 locs (cells + 1) (slots + y.toNatClampNeg) Q (F0 m _ lsM (ps_v X (.ref h.1.1) :: t.map (ps_v X))) := K
  rw [ps_new_v hw.1] at K
  exact K
theorem ps_newarray {n : Jvm.ClassFile.ArrayType} (hC : cE ≤ R.cells ∧ sE ≤ R.slots) (hz : s.heap.size + cE = X.1 + (x.2.1.1 - pm_NR)) (hF : ps_F p s m args meth c k X) (hk : ∀ i ls st h, kk i ls st h = some x → ps_G p l e R s m args below meth c Q X k cE sE x i ls st h) (hok : pf_ok (pd_mm k) (pd_pcs k) (pd_pc k i) (pd_pc k (i + 1)) (.newarray n, a, b, cc, v, tg) = true) (h0 : pm_sem (.newarray n) a b cc v tg i kk call ls st h = some x) : ps_G p l e R s m args below meth c Q X k cE sE x i ls st h := by
  obtain ⟨hx, hb, hF⟩ := hF
  obtain ⟨hd, hn, hc⟩ := ps_ok (by intro q; cases q) hok
  dsimp only [pm_sem] at h0
  obtain ⟨hml, hown, hret, hnm, hts, hE, hz0, -⟩ := hF
  have hA : ∀ q, s.heap.size ≤ q → ps_A X q := fun q hq => Nat.le_trans hz0 hq
  split at h0
  next y t =>
    obtain ⟨g, h0⟩ := pm_go_n h0
    have hin := pm_inb_in g
    have hn0 : ¬ y < 0 := fun z => hin (Or.inl z)
    have hlt : y.toNatClampNeg < 65536 := Nat.not_le.mp (fun z => hin (Or.inr z))
    have hc : (Nat.beq (pf_at' n) a && Nat.ble a 2) = true := hc
    rw [Bool.and_eq_true] at hc
    have he : pf_at' n = a := Nat.eq_of_beq_eq_true hc.1
    have hle : a ≤ 2 := Nat.le_of_ble_eq_true hc.2
    obtain ⟨gG, gK⟩ := ps_newa_K (pc := 0) hC hz (hk _ _ _ _ h0)
    refine ⟨gG, fun H locs lsM cells slots q1 q2 hw hl hs => ?_⟩
    obtain ⟨⟨b1, b2⟩, K⟩ := gK H locs lsM cells slots q1 q2 hw hl
    rw [hn] at K
    show W p l e R s m args below meth c H locs cells slots Q (F0 m _ lsM (.int y :: t.map (ps_v X)))
    cases n with
    | int =>
      obtain rfl : a = 0 := he.symm
      refine va_newa (atype := .int) (ty := .int) (a0 := (y.toNatClampNeg, .inl (fun _ => 0))) hx hb (hts _ (pf_good pf_ac_int rfl)) rfl hE.1 hw.2.2.1 (ps_D X h) hs hA (fun _ => rfl) hn0 rfl (by show _ * 4 ≤ _; omega) b1 b2 hd (fun q cA H1 hK1 hP hD hs1 => ?_)
      have hcA : cA = X.2.2.2.1 0 := Option.some.inj ((show s.vm.findClass _ = some cA from (hK1.2 5 _ rfl).2).symm.trans (hE.1.2 0 _ rfl).2)
      have ee : ps_el X (pm_new h (2, 0, y.toNatClampNeg) y.toNatClampNeg) h.1.1 0 = .inl (fun _ => 0) := by simp [ps_el, pm_new, pm_up]
      exact K q cA H1 hcA (by decide) (by rw [ee]; exact hP) (by rw [ee]; exact hD) hs1
    | boolean =>
      obtain rfl : a = 1 := he.symm
      refine va_newa (atype := .boolean) (ty := .boolean) (a0 := (y.toNatClampNeg, .inl (fun _ => 0))) hx hb (hts _ (pf_good pf_ac_boolean rfl)) rfl hE.1 hw.2.2.1 (ps_D X h) hs hA (fun _ => rfl) hn0 rfl (by show _ * 1 ≤ _; omega) b1 b2 hd (fun q cA H1 hK1 hP hD hs1 => ?_)
      have hcA : cA = X.2.2.2.1 1 := Option.some.inj ((show s.vm.findClass _ = some cA from (hK1.2 5 _ rfl).2).symm.trans (hE.1.2 1 _ rfl).2)
      have ee : ps_el X (pm_new h (2, 1, y.toNatClampNeg) y.toNatClampNeg) h.1.1 1 = .inl (fun _ => 0) := by simp [ps_el, pm_new, pm_up]
      exact K q cA H1 hcA (by decide) (by rw [ee]; exact hP) (by rw [ee]; exact hD) hs1
    | long =>
      obtain rfl : a = 2 := he.symm
      refine va_newa (atype := .long) (ty := .long) (a0 := (y.toNatClampNeg, .inr (.inl (fun _ => 0)))) hx hb (hts _ (pf_good pf_ac_long rfl)) rfl hE.1 hw.2.2.1 (ps_D X h) hs hA (fun _ => rfl) hn0 rfl (by show _ * 8 ≤ _; omega) b1 b2 hd (fun q cA H1 hK1 hP hD hs1 => ?_)
      have hcA : cA = X.2.2.2.1 2 := Option.some.inj ((show s.vm.findClass _ = some cA from (hK1.2 5 _ rfl).2).symm.trans (hE.1.2 2 _ rfl).2)
      have ee : ps_el X (pm_new h (2, 2, y.toNatClampNeg) y.toNatClampNeg) h.1.1 2 = .inr (.inl (fun _ => 0)) := by simp [ps_el, pm_new, pm_up]
      exact K q cA H1 hcA (by decide) (by rw [ee]; exact hP) (by rw [ee]; exact hD) hs1
    | _ => exact absurd he (by intro z; rw [← z] at hle; exact absurd hle (by decide))
  next => cases h0

theorem ps_anewarray {n : Nat} (hC : cE ≤ R.cells ∧ sE ≤ R.slots) (hz : s.heap.size + cE = X.1 + (x.2.1.1 - pm_NR)) (hF : ps_F p s m args meth c k X) (hk : ∀ i ls st h, kk i ls st h = some x → ps_G p l e R s m args below meth c Q X k cE sE x i ls st h) (hok : pf_ok (pd_mm k) (pd_pcs k) (pd_pc k i) (pd_pc k (i + 1)) (.anewarray n, a, b, cc, v, tg) = true) (h0 : pm_sem (.anewarray n) a b cc v tg i kk call ls st h = some x) : ps_G p l e R s m args below meth c Q X k cE sE x i ls st h := by
  obtain ⟨hx, hb, hF⟩ := hF
  obtain ⟨hd, hn, hc⟩ := ps_ok (by intro q; cases q) hok
  dsimp only [pm_sem] at h0
  obtain ⟨hml, hown, hret, hnm, hts, hE, hz0, -⟩ := hF
  have hA : ∀ q, s.heap.size ≤ q → ps_A X q := fun q hq => Nat.le_trans hz0 hq
  split at h0
  next y t =>
    obtain ⟨g, h0⟩ := pm_go_n h0
    rw [Bool.and_eq_true] at g
    have hat : a ∈ pd_tl := by
      obtain ⟨z, z1, z2⟩ := List.any_eq_true.mp g.2
      rw [Nat.eq_of_beq_eq_true z2]
      exact z1
    have hin := pm_inb_in g.1
    have hn0 : ¬ y < 0 := fun z => hin (Or.inl z)
    have hlt : y.toNatClampNeg < 65536 := Nat.not_le.mp (fun z => hin (Or.inr z))
    have hc : (Nat.ble 4 a && (Nat.ble (a - 3) pd_nC && decide (pd_pw (pm_at 0 tg 0) = .classLink (pd_mm k).1.cls n (pd_R (a - 4))))) = true := hc
    simp only [Bool.and_eq_true] at hc
    have h4 : 4 ≤ a := Nat.le_of_ble_eq_true hc.1
    have hp := of_decide_eq_true hc.2.2
    obtain ⟨gG, gK⟩ := ps_newa_K (pc := 0) hC hz (hk _ _ _ _ h0)
    refine ⟨gG, fun H locs lsM cells slots q1 q2 hw hl hs => ?_⟩
    obtain ⟨⟨b1, b2⟩, K⟩ := gK H locs lsM cells slots q1 q2 hw hl
    rw [hn] at K
    show W p l e R s m args below meth c H locs cells slots Q (F0 m _ lsM (.int y :: t.map (ps_v X)))
    refine va_newq (N' := y.toNatClampNeg) hx hb hown (hts _ (pf_good (pf_pw_in hp (fun z => by cases z)) rfl)) (hE.2.2.2.2.2.2.1 a hat h4) hE.1 hw.2.2.1 (ps_D X h) hs hA hn0 rfl (by omega) b1 b2 hd (fun q cA H1 hK1 hP hD hs1 => ?_)
    obtain ⟨t0, ht0⟩ := ps_tys_at (X := X) hat
    have hlen : (ps_tys X).length = 5 := by simp [ps_tys, pd_tl]
    have k1 := (hK1.2 5 (cA, .object (pd_R (a - 4))) (by rw [List.getElem?_append_right (by omega), hlen]; rfl)).2
    have k2 := (hE.1.2 t0 _ ht0).2
    rw [ps_ty4 h4] at k2
    obtain ⟨kA, cm, -, -, -, z1⟩ := k1
    obtain ⟨kB, cn, -, -, -, z2⟩ := k2
    have hcA : cA = X.2.2.2.1 a := Option.some.inj (z1.symm.trans z2)
    have ee : ps_el X (pm_new h (2, a, y.toNatClampNeg) y.toNatClampNeg) h.1.1 a = .inr (.inr (.inr (.inr (fun _ => none)))) := by
      rw [ps_el4 h4]
      simp [pm_new, pm_up]
    exact K q cA H1 hcA hat (by rw [ee]; exact hP) (by rw [ee]; exact hD) hs1
  next => cases h0

end
