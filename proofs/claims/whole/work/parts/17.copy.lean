/-! System.arraycopy; the clone of a static array -/
section
variable {p : Program} {l : Launch} {e : Env} {R : Room} {s : State} {m : MethodId} {args : Array Value} {below : List Frame} {meth : Method} {c : Code} {Q : State → Prop} {X : ps_X} {k cE sE : Nat} {x : Option Value × pm_H} {kk : pm_K} {call : Nat → List Value → pm_H → pm_R} {a b cc : Nat} {v : Value} {tg : List Nat} {i : Nat} {ls st : List Value} {h : pm_H}
theorem ps_nn (z : Int32) (hz : ¬ z < 0) : z.toInt = (z.toNatClampNeg : Int) := by
  have hz0 : (0 : Int) ≤ z.toInt := by
    have := Int32.not_lt.mp hz
    simpa using Int32.le_iff_toInt_le.mp this
  show z.toInt = ((z.toInt.toNat : Nat) : Int)
  omega
/-- out of a table of ints into an own row -/
theorem ps_copyT {H : Heap} {locs : List Loc} {lsM : Array Slot} {cells slots : Nat} {own : String} {idx pc b0 n0 a1 q1 t1 c1 n1 : Nat} {f g : Nat → Int32} {sp dp n : Int32} {rest : List Value} {ws : va_W} (hx : p.tables.exec = Jvm.exec) (hb : c.code = (pd_mm k).2.1) (hml : c.maxLocals = lsM.size) (hown : s.vm.findClass own = some m.cls) (hlink : (Cond.methodLink own idx arraycopyName).before args s = true) (hnat : (Cond.native arraycopyName).before args s = true) (hstat : (Cond.static arraycopyName).before args s = true) (hini : (Cond.initialized "java/lang/System").before args s = true)
    (hK : va_K X.2.2.2.2.1 pd_cl (ps_tys X) s) (hP : va_P X.2.2.2.2.1 pd_cl ws H) (hD : va_D (ps_A X) ws) (hS : va_S (ps_A X) s.heap H locs) (hT : va_T .int b0 n0 (fun j => .int (f j)) (ps_A X) s s.heap) (ha1 : ws[q1]? = some (a1, .inl (c1, n1, .inl g))) (ht1 : (ps_tys X)[t1]? = some (c1, .int)) (h1 : ¬ sp < 0) (h2 : ¬ dp < 0) (h3 : ¬ n < 0) (h4 : sp.toNatClampNeg + n.toNatClampNeg ≤ n0) (h5 : dp.toNatClampNeg + n.toNatClampNeg ≤ n1) (hframes : 1 ≤ R.frames) (hlocals : (rest.map fun v => v.category).sum + (nativeFrameWords "java/lang/System" "arraycopy" 5 + 11) ≤ R.locals) (hd : decode (pd_mm k).2.1 pc = .ok (.invokestatic idx, 3))
    (K : ∀ (H1 : Heap) (locs1 : List Loc), va_P X.2.2.2.2.1 pd_cl (ws.set q1 (a1, .inl (c1, n1, .inl (va_cpy f g sp.toNatClampNeg dp.toNatClampNeg n.toNatClampNeg)))) H1 → va_S (ps_A X) s.heap H1 locs1 → W p l e R s m args below meth c H1 locs1 cells slots Q (F0 m (pc + 3) lsM rest)) : W p l e R s m args below meth c H locs cells slots Q (F0 m pc lsM (.int n :: .int dp :: .ref a1 :: .int sp :: .ref b0 :: rest)) := by
  intro T hTh Xs
  obtain ⟨cell, t1', t2, t3, t4, -, t6, t7⟩ := hT
  have hsrc : H[b0]? = some cell := (hS.2.1 b0 (Array.getElem?_eq_some_iff.mp t1').1 t7).trans t1'
  have hdst : H[a1]? = some (vp_cell c1 (n1, .inl g)) := hP q1 _ ha1
  obtain ⟨u1, kA, u2, cmA, u3⟩ := t2
  obtain ⟨-, kB, u4, cmB, u5⟩ := (hK.2 t1 _ ht1).1 n1 (fun j => .int (g j))
  obtain ⟨vm', Xs', go⟩ := Xs.arraycopy hx hown hlink hnat hstat hini (src := b0) (dst := a1) (cs := cell) (cd := vp_cell c1 (n1, .inl g)) (srcPos := sp) (destPos := dp) (n := n) (by rw [hTh]; exact hsrc) (by rw [hTh]; exact hdst) u1 (fun _ h => by cases h) t3 (fun h => by cases h) u2 u4 u3 u5 (by simp [refKind]) h1 h2 h3
    (by rw [ps_nn sp h1, ps_nn n h3]; omega) (by rw [ps_nn dp h2, ps_nn n h3]; show ¬ _ > ((arrV c1 n1 (fun j => .int (g j))).slots.size : Int); rw [arrV_size]; omega)
    (fun vm₁ _ i hi => by
      have e0 : cell.slots.getD (sp.toNatClampNeg + i) .null = .int (f (sp.toNatClampNeg + i)) := by
        rw [Array.getD_eq_getD_getElem?, t6 _ (by omega)]
        rfl
      rw [e0]
      exact ⟨rfl, trivial⟩)
    (g := F0 m pc lsM (.int n :: .int dp :: .ref a1 :: .int sp :: .ref b0 :: rest)) rfl (by rw [hml]) (rest := rest) rfl (by rw [hb]; exact hd) hframes (by show 2 * 0 + _ + _ ≤ _; omega)
  rw [show copied cell (vp_cell c1 (n1, .inl g)) sp dp n = vp_cell c1 (n1, .inl (va_cpy f g sp.toNatClampNeg dp.toNatClampNeg n.toNatClampNeg)) from va_copiedX (fun z => .int z) cell c1 f g t6 h4] at Xs' go
  have hlt : a1 < H.size := (Array.getElem?_eq_some_iff.mp hdst).1
  generalize hH1 : H.setIfInBounds a1 (vp_cell c1 (n1, .inl (va_cpy f g sp.toNatClampNeg dp.toNatClampNeg n.toNatClampNeg))) = H1
  have s1 : H1.size = H.size := by rw [← hH1]; simp
  have s2 : H1[a1]? = some (vp_cell c1 (n1, .inl (va_cpy f g sp.toNatClampNeg dp.toNatClampNeg n.toNatClampNeg))) := by rw [← hH1]; simp [Array.getElem?_setIfInBounds, hlt]
  have s3 : ∀ q : Nat, q ≠ a1 → H1[q]? = H[q]? := fun q hq => by rw [← hH1]; simp [Array.getElem?_setIfInBounds, Ne.symm hq]
  have hin : ps_A X a1 := hD.2 q1 _ ha1
  obtain ⟨t, r1, r2⟩ := K H1 _ (hP.set hD ha1 s2 s3) ⟨by rw [s1]; exact hS.1, fun q g1 g2 => (s3 q (fun z => g2 (z ▸ hin))).trans (hS.2.1 q g1 g2), fun q hq => by
      rcases List.mem_append.mp hq with h | h
      · exact hS.2.2 q h
      · obtain ⟨z, -, hz⟩ := List.mem_map.mp h
        rw [← hz]
        exact hin⟩ _ (by rw [← hH1, ← hTh]; rfl) Xs'
  exact ⟨t, go t r1, r2⟩
theorem ps_arraycopy {n : Nat} (hR : 1 ≤ R.frames ∧ 100 ≤ R.locals) (hF : ps_F p s m args meth c k X) (hk : ∀ i ls st h, kk i ls st h = some x → ps_G p l e R s m args below meth c Q X k cE sE x i ls st h) (hok : pf_ok (pd_mm k) (pd_pcs k) (pd_pc k i) (pd_pc k (i + 1)) (.invokestatic n, a, b, 8, v, tg) = true) (h0 : pm_sem (.invokestatic n) a b 8 v tg i kk call ls st h = some x) : ps_G p l e R s m args below meth c Q X k cE sE x i ls st h := by
  obtain ⟨hx, hb, hml, hown, hret, hnm, hts, hE, -⟩ := hF
  obtain ⟨hd, hn, hc⟩ := ps_ok (by intro q; cases q) hok
  have hp : pd_pw (pm_at 0 tg 1) = .methodLink (pd_mm k).1.cls n arraycopyName := of_decide_eq_true hc
  have hnv := hE.2.2.2.2.2.2.2.1
  have l1 := hts _ (pf_good (pf_pw_in hp (fun z => by cases z)) rfl)
  have l2 := hts _ (pf_good pf_cp1 rfl)
  have l3 := hts _ (pf_good pf_cp2 rfl)
  have l4 := hts _ (pf_good pf_cp3 rfl)
  replace h0 : (match (generalizing := false) st with
      | .int n :: .int dp :: .ref r :: .int sp :: .ref q :: t => pm_go (pm_inb n 65536 && (pm_inb sp 65536 && (pm_inb dp 65536 && (Nat.ble pm_NR r && (Nat.ble (sp.toNatClampNeg + n.toNatClampNeg) (pm_kd h q).2.2 && (Nat.ble (dp.toNatClampNeg + n.toNatClampNeg) (pm_kd h r).2.2 && Nat.ble (pm_cat t) 8)))))) (
          pm_go (pm_is (pm_kd h r) 2 0 && pm_is (pm_kd h q) 2 0) (kk (i + 1) ls t (h.1, pm_up h.2.1 r (va_cpy (h.2.1 q) (h.2.1 r) sp.toNatClampNeg dp.toNatClampNeg n.toNatClampNeg), h.2.2.1, h.2.2.2)) (
          pm_go (pm_is (pm_kd h r) 2 2 && (pm_is (pm_kd h q) 2 2 && Nat.ble pm_NR q)) (kk (i + 1) ls t (h.1, h.2.1, pm_up h.2.2.1 r (va_cpy (h.2.2.1 q) (h.2.2.1 r) sp.toNatClampNeg dp.toNatClampNeg n.toNatClampNeg), h.2.2.2)) none)) none
      | _ => none) = some x := h0
  split at h0
  next n dp r sp q t =>
    obtain ⟨g, h0⟩ := pm_go_n h0
    simp only [Bool.and_eq_true] at g
    obtain ⟨g1, g2, g3, g4, g5, g6, g7⟩ := g
    have n0 : ¬ n < 0 := fun z => pm_inb_in g1 (Or.inl z)
    have sp0 : ¬ sp < 0 := fun z => pm_inb_in g2 (Or.inl z)
    have dp0 : ¬ dp < 0 := fun z => pm_inb_in g3 (Or.inl z)
    have hr : pm_NR ≤ r := Nat.le_of_ble_eq_true g4
    have h4 := Nat.le_of_ble_eq_true g5
    have h5 := Nat.le_of_ble_eq_true g6
    have h8 : pm_cat t ≤ 8 := Nat.le_of_ble_eq_true g7
    have hloc : ((t.map (ps_v X)).map fun v => v.category).sum + (nativeFrameWords "java/lang/System" "arraycopy" 5 + 11) ≤ R.locals := by
      rw [pm_cat_e hnv]
      have : nativeFrameWords "java/lang/System" "arraycopy" 5 ≤ 60 := by decide
      have := hR.2
      omega
    rcases pm_go_t h0 with ⟨q0, h1⟩ | ⟨-, h1⟩
    · rw [Bool.and_eq_true] at q0
      have k1 := pm_is_e q0.1
      have k2 := pm_is_e q0.2
      refine ps_wrote (hk _ _ _ _ h1) rfl (fun H locs lsM cells slots hw hl hs K => ?_)
      rw [hn] at K
      obtain ⟨lv, hl1, -⟩ := hl
      show W p l e R s m args below meth c H locs cells slots Q (F0 m _ lsM (.int n :: .int dp :: ps_v X (.ref r) :: .int sp :: ps_v X (.ref q) :: t.map (ps_v X)))
      rw [ps_vref (r := r) hE hw (by rw [k1.1]; decide), ps_vref (r := q) hE hw (by rw [k2.1]; decide)]
      have ha := ps_arr hw hr k1.1
      rw [k1.2] at ha
      have fin : ∀ (H1 : Heap) (locs1 : List Loc), va_P X.2.2.2.2.1 pd_cl ((ps_ws X h).set (r - pm_NR) (ps_ad X r, .inl (X.2.2.2.1 0, (pm_kd h r).2.2, .inl (va_cpy (h.2.1 q) (h.2.1 r) sp.toNatClampNeg dp.toNatClampNeg n.toNatClampNeg)))) H1 → va_S (ps_A X) s.heap H1 locs1 → W p l e R s m args below meth c H1 locs1 cells slots Q (F0 m (pd_pc k i + 3) lsM (t.map (ps_v X))) := fun H1 locs1 hP hs1 => by
        refine K H1 locs1 (hw.put hr (hw.lt (by rw [k1.1]; decide)) rfl (fun j hj => by simp [pm_up, hj]) ?_) hs1
        rw [ps_E_arr (by exact k1.1)]
        show va_P _ _ ((ps_ws X h).set _ (_, .inl (X.2.2.2.1 (pm_kd h r).2.1, (pm_kd h r).2.2, ps_el X _ r (pm_kd h r).2.1))) _
        rw [k1.2]
        have ee : ps_el X (h.1, pm_up h.2.1 r (va_cpy (h.2.1 q) (h.2.1 r) sp.toNatClampNeg dp.toNatClampNeg n.toNatClampNeg), h.2.2.1, h.2.2.2) r 0 = .inl (va_cpy (h.2.1 q) (h.2.1 r) sp.toNatClampNeg dp.toNatClampNeg n.toNatClampNeg) := by simp [ps_el, pm_up]
        rw [ee]
        exact hP
      rcases Nat.lt_or_ge q pm_NR with hq | hq
      · have hT := ps_tab hE hw hq k2.1
        rw [k2.2] at hT
        exact ps_copyT hx hb (by rw [hml]; exact hl1.1.symm) hown l1 l2 l3 l4 hE.1 hw.2.2.1 (ps_D X h) hs hT ha (t1 := 0) rfl sp0 dp0 n0 h4 h5 hR.1 hloc hd fin
      · have ha0 := ps_arr hw hq k2.1
        rw [k2.2] at ha0
        exact va_copyi hx hb (by rw [hml]; exact hl1.1.symm) hown l1 l2 l3 l4 hE.1 hw.2.2.1 (ps_D X h) hs (q - pm_NR) (r - pm_NR) 0 0 ha0 ha rfl rfl rfl sp0 dp0 n0 h4 h5 (fun _ _ => rfl) hR.1 hloc hd (fun H1 locs1 hP hD hs1 => fin H1 locs1 hP hs1)
    · obtain ⟨q0, h1⟩ := pm_go_n h1
      simp only [Bool.and_eq_true] at q0
      have k1 := pm_is_e q0.1
      have k2 := pm_is_e q0.2.1
      have hq : pm_NR ≤ q := Nat.le_of_ble_eq_true q0.2.2
      refine ps_wrote (hk _ _ _ _ h1) rfl (fun H locs lsM cells slots hw hl hs K => ?_)
      rw [hn] at K
      obtain ⟨lv, hl1, -⟩ := hl
      show W p l e R s m args below meth c H locs cells slots Q (F0 m _ lsM (.int n :: .int dp :: ps_v X (.ref r) :: .int sp :: ps_v X (.ref q) :: t.map (ps_v X)))
      rw [ps_vref (r := r) hE hw (by rw [k1.1]; decide), ps_vref (r := q) hE hw (by rw [k2.1]; decide)]
      have ha := ps_arr hw hr k1.1
      rw [k1.2] at ha
      have ha0 := ps_arr hw hq k2.1
      rw [k2.2] at ha0
      refine va_copyl hx hb (by rw [hml]; exact hl1.1.symm) hown l1 l2 l3 l4 hE.1 hw.2.2.1 (ps_D X h) hs (q - pm_NR) (r - pm_NR) 2 2 ha0 ha rfl rfl rfl sp0 dp0 n0 h4 h5 (fun _ _ => rfl) hR.1 hloc hd (fun H1 locs1 hP hD hs1 => ?_)
      refine K H1 locs1 (hw.put hr (hw.lt (by rw [k1.1]; decide)) rfl (fun j hj => by simp [pm_up, hj]) ?_) hs1
      rw [ps_E_arr (by exact k1.1)]
      show va_P _ _ ((ps_ws X h).set _ (_, .inl (X.2.2.2.1 (pm_kd h r).2.1, (pm_kd h r).2.2, ps_el X _ r (pm_kd h r).2.1))) _
      rw [k1.2]
      have ee : ps_el X (h.1, h.2.1, pm_up h.2.2.1 r (va_cpy (h.2.2.1 q) (h.2.2.1 r) sp.toNatClampNeg dp.toNatClampNeg n.toNatClampNeg), h.2.2.2) r 2 = .inr (.inl (va_cpy (h.2.2.1 q) (h.2.2.1 r) sp.toNatClampNeg dp.toNatClampNeg n.toNatClampNeg)) := by simp [ps_el, pm_up]
      rw [ee]
      exact hP
  next => cases h0
theorem ps_clone {n : Nat} (hR : 1 ≤ R.frames ∧ 100 ≤ R.locals) (hC : cE ≤ R.cells ∧ sE ≤ R.slots) (hz : s.heap.size + cE = X.1 + (x.2.1.1 - pm_NR)) (hF : ps_F p s m args meth c k X) (hk : ∀ i ls st h, kk i ls st h = some x → ps_G p l e R s m args below meth c Q X k cE sE x i ls st h) (hok : pf_ok (pd_mm k) (pd_pcs k) (pd_pc k i) (pd_pc k (i + 1)) (.invokevirtual n, a, b, 9, v, tg) = true) (h0 : pm_sem (.invokevirtual n) a b 9 v tg i kk call ls st h = some x) : ps_G p l e R s m args below meth c Q X k cE sE x i ls st h := by
  obtain ⟨hx, hb, hml, hown, hret, hnm, hts, hE, hz0, -⟩ := hF
  obtain ⟨hd, hn, hc⟩ := ps_ok (by intro q; cases q) hok
  have hp : pd_pw (pm_at 0 tg 1) = .methodLink (pd_mm k).1.cls n ⟨"[I", "clone", "()Ljava/lang/Object;"⟩ := of_decide_eq_true hc
  have hnv := hE.2.2.2.2.2.2.2.1
  replace h0 : (match (generalizing := false) st with
      | .ref r :: t => pm_go (pm_is (pm_kd h r) 2 0 && (Nat.ble (pm_cat t) 8 && (Nat.ble 1 r && Nat.ble (r + 1) pm_NR))) (kk (i + 1) ls (.ref h.1.1 :: t) ((h.1.1 + 1, h.1.2.1 + (pm_kd h r).2.2, pm_up h.1.2.2 h.1.1 (pm_kd h r)), pm_up h.2.1 h.1.1 (h.2.1 r), pm_up h.2.2.1 h.1.1 (fun _ => 0), pm_up h.2.2.2 h.1.1 (fun _ => none))) none
      | _ => none) = some x := h0
  split at h0
  next r t =>
    obtain ⟨g, h0⟩ := pm_go_n h0
    simp only [Bool.and_eq_true] at g
    obtain ⟨g1, g2, g3, g4⟩ := g
    have k1 := pm_is_e g1
    have h8 : pm_cat t ≤ 8 := Nat.le_of_ble_eq_true g2
    have hr1 : 1 ≤ r := Nat.le_of_ble_eq_true g3
    have hr : r < pm_NR := Nat.le_of_ble_eq_true g4
    generalize hh : ((h.1.1 + 1, h.1.2.1 + (pm_kd h r).2.2, pm_up h.1.2.2 h.1.1 (pm_kd h r)), pm_up h.2.1 h.1.1 (h.2.1 r), pm_up h.2.2.1 h.1.1 (fun _ => 0), pm_up h.2.2.2 h.1.1 (fun _ => none)) = h' at h0
    have e1 : h'.1.1 = h.1.1 + 1 := by rw [← hh]
    have e2 : h'.1.2.1 = h.1.2.1 + (pm_kd h r).2.2 := by rw [← hh]
    have e3 : ∀ j, pm_kd h' j = if j = h.1.1 then pm_kd h r else pm_kd h j := fun j => by rw [← hh]; rfl
    have e4 : ∀ j, j ≠ h.1.1 → h'.2.1 j = h.2.1 j ∧ h'.2.2.1 j = h.2.2.1 j ∧ h'.2.2.2 j = h.2.2.2 j := fun j hj => by rw [← hh]; simp [pm_up, hj]
    have e5 : h'.2.1 h.1.1 = h.2.1 r := by rw [← hh]; simp [pm_up]
    obtain ⟨⟨b1, b2⟩, gW⟩ := hk _ _ _ _ h0
    rw [e1] at b1
    rw [e2] at b2
    refine ⟨⟨by omega, by omega⟩, fun H locs lsM cells slots q1 q2 hw hl hs => ?_⟩
    show W p l e R s m args below meth c H locs cells slots Q (F0 m _ lsM (ps_v X (.ref r) :: t.map (ps_v X)))
    rw [ps_vref (r := r) hE hw (by rw [k1.1]; decide)]
    refine W.size (fun hsz => ?_)
    obtain ⟨lv, hl1, hl2⟩ := id hl
    have hT := ps_tab hE hw hr k1.1
    rw [k1.2] at hT
    obtain ⟨ro1, ro2, -⟩ := hw.2.2.2.2.2 r hr
    have hex := (hE.2.1 r hr (by rw [← ro1]; exact k1.1)).2 (by rw [← ro1]; exact k1.2) hr1
    obtain ⟨cell, t1, t2, t3, t4, -, t6, t7⟩ := hT
    obtain ⟨cell2, x1, x2, x3⟩ := hex
    rw [← ps_ad_ro hr] at x1
    cases t1.symm.trans x1
    rw [← ro1] at x3
    have hsrc : H[ps_ad X r]? = some cell := (hs.2.1 _ (Array.getElem?_eq_some_iff.mp t1).1 t7).trans t1
    obtain ⟨y1, y2, y3, y4, y5⟩ := Cond.castable_spec (va_Nw.use (A := args) rfl (hE.2.2.2.2.2.1 _ pf_cl5 rfl))
    cases x2.symm.trans y3
    obtain ⟨u1, kA, u2, cmA, u3⟩ := t2
    have hdA : X.2.2.2.1 0 = cell.cls := Option.some.inj ((hE.1.2 0 _ rfl).2.symm.trans x2)
    intro T hTh Xs
    have hcellT : T.heap[ps_ad X r]? = some cell := by rw [hTh]; exact hsrc
    obtain ⟨-, kT, hkT, cmT, hkindT⟩ := State.isArrayOf_alike Xs.warmed.alike (show s.isArrayOf cell .int from ⟨u1, kA, u2, cmA, u3⟩)
    obtain ⟨vm', Xs', go⟩ := Xs.cloneArray hx hown (hts _ (pf_good (pf_pw_in hp (fun z => by cases z)) rfl)) (hts _ (pf_good pf_cl1 rfl)) (hts _ (pf_good pf_cl2 rfl)) (hts _ (pf_good pf_cl3 rfl)) (hts _ (pf_good pf_cl4 rfl)) (a := ps_ad X r) (cell := cell) hcellT u1 t3 x2 y4 y5
      (fun j w hw => by
        have hj : j < (pm_kd h r).2.2 := by rw [← x3]; exact (Array.getElem?_eq_some_iff.mp hw).1
        cases (t6 j hj).symm.trans hw
        simp [State.fitsSlot, State.slotType?, hkT, hkindT, fits])
      (g := F0 m (pd_pc k i) lsM (.ref (ps_ad X r) :: t.map (ps_v X))) rfl (by rw [hml]; exact hl1.1) rfl (by rw [hb]; exact hd) hR.1 (by show 2 * 0 + _ + 14 ≤ _; rw [pm_cat_e hnv]; have := hR.2; omega) (by omega) (by rw [x3]; omega) (hloader := Vm.clonesLoader_of_array u2 u3)
    rw [x3] at Xs'
    have hsl : ∀ j : Nat, cell.slots[j]? = (arrV cell.cls (pm_kd h r).2.2 (fun j => .int (h.2.1 r j))).slots[j]? := by
      intro j
      by_cases hj : j < (pm_kd h r).2.2
      · rw [t6 j hj]
        simp [arrV, hj]
      · rw [Array.getElem?_eq_none (by rw [x3]; omega), Array.getElem?_eq_none (by rw [arrV_size]; omega)]
    have hce : ({ cls := cell.cls, slots := cell.slots } : Cell) = vp_cell cell.cls ((pm_kd h r).2.2, .inl (h.2.1 r)) := by
      rw [vp_cell_i]
      have : cell.slots = (arrV cell.cls (pm_kd h r).2.2 (fun j => .int (h.2.1 r j))).slots := Array.ext_getElem? hsl
      rw [this]
      rfl
    rw [hce] at Xs'
    rw [hce, hTh] at go
    generalize hH1 : H.push (vp_cell cell.cls ((pm_kd h r).2.2, .inl (h.2.1 r))) = H1
    have z1 : H1.size = H.size + 1 := by rw [← hH1, Array.size_push]
    have z2 : H1[H.size]? = some (vp_cell cell.cls ((pm_kd h r).2.2, .inl (h.2.1 r))) := by rw [← hH1, Array.getElem?_push_size]
    have z3 : ∀ q : Nat, q < H.size → H1[q]? = H[q]? := fun q hq => by rw [← hH1, Array.getElem?_push, if_neg (Nat.ne_of_lt hq)]
    have hP1 : va_P X.2.2.2.2.1 pd_cl (ps_ws X h ++ [(H.size, .inl (cell.cls, (pm_kd h r).2.2, .inl (h.2.1 r)))]) H1 := (hw.2.2.1.kept (fun j y hy => z3 y.1 ((hw.2.2.1 j y hy).lt))).app (fun j y hy => by
      have hj : j < 1 := (List.getElem?_eq_some_iff.mp hy).1
      rw [show j = 0 by omega] at hy
      cases hy
      exact z2)
    have hD1 : va_D (ps_A X) (ps_ws X h ++ [(H.size, .inl (cell.cls, (pm_kd h r).2.2, .inl (h.2.1 r)))]) := (ps_D X h).push hw.2.2.1 rfl (Nat.le_trans hz0 hs.1)
    have hat := ps_newat hw hP1 hD1 (by have := hw.1; omega)
    rw [hat] at hP1
    have hw' : ps_W X h' H1 := ps_push hw e1 e3 e4 (Or.inr ⟨k1.1, by rw [k1.2]; decide⟩) (by rw [ps_E_arr (by rw [e3, if_pos rfl]; exact k1.1), e3, if_pos rfl, k1.2, hdA]; simp [ps_el, e5]) hP1
    have K := gW H1 locs lsM (cells + 1) (slots + (pm_kd h r).2.2) (by rw [e1]; omega) (by rw [e2]; omega) hw' hl ⟨by rw [z1]; exact Nat.le_succ_of_le hs.1, fun q a1 a2 => (z3 q (Nat.lt_of_lt_of_le a1 hs.1)).trans (hs.2.1 q a1 a2), hs.2.2⟩
    rw [hn] at K
    have K : W p l e R s m args below meth c H1 locs (cells + 1) (slots + (pm_kd h r).2.2) Q (F0 m _ lsM (ps_v X (.ref h.1.1) :: t.map (ps_v X))) := K
    rw [ps_new_v hw.1, ← hat] at K
    obtain ⟨t', r1, r2⟩ := K _ (by rw [← hH1, ← hTh]; rfl) Xs'
    exact ⟨t', go t' r1, r2⟩
  next => cases h0
end
