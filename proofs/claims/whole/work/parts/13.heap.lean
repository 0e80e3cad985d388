/-! instructions that read or write cells -/
section
variable {p : Program} {l : Launch} {e : Env} {R : Room} {s : State} {m : MethodId} {args : Array Value} {below : List Frame} {meth : Method} {c : Code} {Q : State → Prop} {X : ps_X} {k cE sE : Nat} {x : Option Value × pm_H} {kk : pm_K} {call : Nat → List Value → pm_H → pm_R} {a b cc : Nat} {v : Value} {tg : List Nat} {i : Nat} {ls st : List Value} {h : pm_H}
theorem ps_E_arr {r : Nat} (ht : (pm_kd h r).1 = 2) : ps_E X h r = .inl (X.2.2.2.1 (pm_kd h r).2.1, (pm_kd h r).2.2, ps_el X h r (pm_kd h r).2.1) := if_neg (by rw [ht]; decide)
theorem ps_E_obj {r : Nat} (ht : (pm_kd h r).1 = 1) : ps_E X h r = .inr ((pm_kd h r).2.1, ps_fs X h r (pm_kd h r).2.1) := if_pos ht
theorem pm_is_e {q : Nat × Nat × Nat} {t c : Nat} (h : pm_is q t c = true) : q.1 = t ∧ q.2.1 = c := by
  simp only [pm_is, Bool.and_eq_true] at h
  exact ⟨Nat.eq_of_beq_eq_true h.1, Nat.eq_of_beq_eq_true h.2⟩
theorem ps_ne40 {H : Heap} (hE : ps_Env X s s.heap) (hw : ps_W X h H) {r : Nat} (ht : (pm_kd h r).1 ≠ 0) : r ≠ 40 := by
  intro z
  subst z
  have h1 := (hw.2.2.2.2.2 40 (by decide)).1
  rw [h1, hE.2.2.2.2.2.2.2.2.2] at ht
  exact ht rfl
theorem ps_vref {H : Heap} (hE : ps_Env X s s.heap) (hw : ps_W X h H) {r : Nat} (ht : (pm_kd h r).1 ≠ 0) : ps_v X (.ref r) = .ref (ps_ad X r) := if_neg (ps_ne40 hE hw ht)
/-- a table that is only read -/
theorem ps_tab {H : Heap} (hE : ps_Env X s s.heap) (hw : ps_W X h H) {r : Nat} (hr : r < pm_NR) (ht : (pm_kd h r).1 = 2) : va_T (ps_ty (pm_kd h r).2.1) (ps_ad X r) (pm_kd h r).2.2 (fun j => .int (h.2.1 r j)) (ps_A X) s s.heap := by
  obtain ⟨e1, e2, -⟩ := hw.2.2.2.2.2 r hr
  have h1 := (hE.2.1 r hr (by rw [← e1]; exact ht)).1
  rw [ps_ad_ro hr, e1, e2]
  exact h1
theorem ps_tab_ty {H : Heap} (hE : ps_Env X s s.heap) (hw : ps_W X h H) {r : Nat} (hr : r < pm_NR) (ht : (pm_kd h r).1 = 2) : (pm_kd h r).2.1 = 0 ∨ (pm_kd h r).2.1 = 3 := by
  obtain ⟨e1, -, -⟩ := hw.2.2.2.2.2 r hr
  rw [e1] at ht ⊢
  rcases hE.2.2.2.2.2.2.2.2.1 r hr with z | ⟨-, z⟩ | z
  · rw [z] at ht; cases ht
  · exact z
  · rw [z] at ht; cases ht
theorem ps_own_ty {H : Heap} (hw : ps_W X h H) {r : Nat} (hr : pm_NR ≤ r) (ht : (pm_kd h r).1 = 2) : (pm_kd h r).2.1 ∈ pd_tl := by
  rcases hw.2.2.2.1 r hr (hw.lt (by rw [ht]; decide)) with ⟨z, -⟩ | ⟨-, z⟩
  · rw [z] at ht; cases ht
  · exact z
theorem ps_own_cl {H : Heap} (hw : ps_W X h H) {r : Nat} (hr : pm_NR ≤ r) (ht : (pm_kd h r).1 = 1) : (pm_kd h r).2.1 < pd_nC := by
  rcases hw.2.2.2.1 r hr (hw.lt (by rw [ht]; decide)) with ⟨-, z⟩ | ⟨z, -⟩
  · exact z
  · rw [z] at ht; cases ht
theorem ps_ro1 {H : Heap} (hE : ps_Env X s s.heap) (hw : ps_W X h H) {r : Nat} (ht : (pm_kd h r).1 = 1) : pm_NR ≤ r := by
  apply Nat.not_lt.mp
  intro hr
  obtain ⟨e1, -, -⟩ := hw.2.2.2.2.2 r hr
  rw [e1] at ht
  rcases hE.2.2.2.2.2.2.2.2.1 r hr with z | ⟨z, -⟩ | z <;> rw [z] at ht <;> cases ht
/-- an own array -/
theorem ps_arr {H : Heap} (hw : ps_W X h H) {r : Nat} (hr : pm_NR ≤ r) (ht : (pm_kd h r).1 = 2) : (ps_ws X h)[r - pm_NR]? = some (ps_ad X r, .inl (X.2.2.2.1 (pm_kd h r).2.1, (pm_kd h r).2.2, ps_el X h r (pm_kd h r).2.1)) := by
  rw [← ps_E_arr ht]
  exact ps_ws_at hr (hw.lt (by rw [ht]; decide))
theorem ps_tys_at {t : Nat} (h : t ∈ pd_tl) : ∃ t0 : Nat, (ps_tys X)[t0]? = some (X.2.2.2.1 t, ps_ty t) := by
  obtain ⟨t0, h0⟩ := List.getElem?_of_mem h
  exact ⟨t0, by simp [ps_tys, List.getElem?_map, h0]⟩
theorem pm_nz {z : Int32} (h : pm_okz 1 z = true) : vp_nar .boolean z = z := by
  simp only [pm_okz, Bool.or_eq_true, beq_iff_eq] at h
  rcases h with rfl | rfl <;> decide
theorem ps_iaload  (hF : ps_F p s m args meth c k X) (hk : ∀ i ls st h, kk i ls st h = some x → ps_G p l e R s m args below meth c Q X k cE sE x i ls st h) (hok : pf_ok (pd_mm k) (pd_pcs k) (pd_pc k i) (pd_pc k (i + 1)) (.iaload, a, b, cc, v, tg) = true) (h0 : pm_sem (.iaload) a b cc v tg i kk call ls st h = some x) : ps_G p l e R s m args below meth c Q X k cE sE x i ls st h := by
  obtain ⟨hx, hb, hF⟩ := hF
  obtain ⟨hd, hn, hc⟩ := ps_ok (by intro q; cases q) hok
  dsimp only [pm_sem] at h0
  obtain ⟨-, -, -, -, -, hE, -⟩ := hF
  split at h0
  next y w t =>
    obtain ⟨g, h0⟩ := pm_go_n h0
    rw [Bool.and_eq_true] at g
    have hq := pm_is_e g.1
    have hin := pm_inb_in g.2
    refine ps_simple (hk _ _ _ _ h0) (fun H locs lsM cells slots hw hl hs K => ?_)
    rw [hn] at K
    show W p l e R s m args below meth c H locs cells slots Q (F0 m _ lsM (.int y :: ps_v X (.ref w) :: t.map (ps_v X)))
    rw [ps_vref hE hw (by rw [hq.1]; decide)]
    rcases Nat.lt_or_ge w pm_NR with hr | hr
    · have hT := ps_tab hE hw hr hq.1
      rw [hq.2] at hT
      exact va_ti hx hb hT hs hin rfl hd K
    · have ha := ps_arr hw hr hq.1
      rw [hq.2] at ha
      exact va_iald hx hb hE.1 hw.2.2.1 (w - pm_NR) 0 ha rfl hin hd K
  next => cases h0

theorem ps_baload  (hF : ps_F p s m args meth c k X) (hk : ∀ i ls st h, kk i ls st h = some x → ps_G p l e R s m args below meth c Q X k cE sE x i ls st h) (hok : pf_ok (pd_mm k) (pd_pcs k) (pd_pc k i) (pd_pc k (i + 1)) (.baload, a, b, cc, v, tg) = true) (h0 : pm_sem (.baload) a b cc v tg i kk call ls st h = some x) : ps_G p l e R s m args below meth c Q X k cE sE x i ls st h := by
  obtain ⟨hx, hb, hF⟩ := hF
  obtain ⟨hd, hn, hc⟩ := ps_ok (by intro q; cases q) hok
  dsimp only [pm_sem] at h0
  obtain ⟨-, -, -, -, -, hE, -⟩ := hF
  split at h0
  next y w t =>
    obtain ⟨g, h0⟩ := pm_go_n h0
    rw [Bool.and_eq_true, Bool.or_eq_true] at g
    have hin := pm_inb_in g.2
    refine ps_simple (hk _ _ _ _ h0) (fun H locs lsM cells slots hw hl hs K => ?_)
    rw [hn] at K
    rcases g.1 with g1 | g1
    · have hq := pm_is_e g1
      show W p l e R s m args below meth c H locs cells slots Q (F0 m _ lsM (.int y :: ps_v X (.ref w) :: t.map (ps_v X)))
      rw [ps_vref hE hw (by rw [hq.1]; decide)]
      rcases Nat.lt_or_ge w pm_NR with hr | hr
      · rcases ps_tab_ty hE hw hr hq.1 with z | z <;> rw [hq.2] at z <;> cases z
      · have ha := ps_arr hw hr hq.1
        rw [hq.2] at ha
        exact va_zald hx hb hE.1 hw.2.2.1 (w - pm_NR) 1 ha rfl hin hd K
    · have hq := pm_is_e g1
      show W p l e R s m args below meth c H locs cells slots Q (F0 m _ lsM (.int y :: ps_v X (.ref w) :: t.map (ps_v X)))
      rw [ps_vref hE hw (by rw [hq.1]; decide)]
      rcases Nat.lt_or_ge w pm_NR with hr | hr
      · have hT := ps_tab hE hw hr hq.1
        rw [hq.2] at hT
        exact va_tb hx hb hT hs hin rfl hd K
      · have hm := ps_own_ty hw hr hq.1
        rw [hq.2] at hm
        exact absurd hm (by decide)
  next => cases h0

theorem ps_laload  (hF : ps_F p s m args meth c k X) (hk : ∀ i ls st h, kk i ls st h = some x → ps_G p l e R s m args below meth c Q X k cE sE x i ls st h) (hok : pf_ok (pd_mm k) (pd_pcs k) (pd_pc k i) (pd_pc k (i + 1)) (.laload, a, b, cc, v, tg) = true) (h0 : pm_sem (.laload) a b cc v tg i kk call ls st h = some x) : ps_G p l e R s m args below meth c Q X k cE sE x i ls st h := by
  obtain ⟨hx, hb, hF⟩ := hF
  obtain ⟨hd, hn, hc⟩ := ps_ok (by intro q; cases q) hok
  dsimp only [pm_sem] at h0
  obtain ⟨-, -, -, -, -, hE, -⟩ := hF
  split at h0
  next y w t =>
    obtain ⟨g, h0⟩ := pm_go_n h0
    rw [Bool.and_eq_true] at g
    have hq := pm_is_e g.1
    have hin := pm_inb_in g.2
    refine ps_simple (hk _ _ _ _ h0) (fun H locs lsM cells slots hw hl hs K => ?_)
    rw [hn] at K
    show W p l e R s m args below meth c H locs cells slots Q (F0 m _ lsM (.int y :: ps_v X (.ref w) :: t.map (ps_v X)))
    rw [ps_vref hE hw (by rw [hq.1]; decide)]
    rcases Nat.lt_or_ge w pm_NR with hr | hr
    · rcases ps_tab_ty hE hw hr hq.1 with z | z <;> rw [hq.2] at z <;> cases z
    · have ha := ps_arr hw hr hq.1
      rw [hq.2] at ha
      exact va_lald hx hb hE.1 hw.2.2.1 (w - pm_NR) 2 ha rfl hin hd K
  next => cases h0

theorem pm_ldr_e {r : Option Nat} {f : Value → pm_R} {z : Option Value × pm_H} (h : pm_ldr r f = some z) : (r = none ∧ f .null = some z) ∨ ∃ q, r = some q ∧ q ≠ 40 ∧ f (.ref q) = some z := by
  cases r with
  | none => exact Or.inl ⟨rfl, h⟩
  | some q =>
    obtain ⟨g, h0⟩ := pm_go_n (b := !(Nat.beq q 40)) h
    exact Or.inr ⟨q, rfl, (fun e => by rw [e] at g; cases g), h0⟩
theorem ps_ldv {r : Option Nat} {w : Value} (h : (r = none ∧ w = .null) ∨ ∃ q, r = some q ∧ q ≠ 40 ∧ w = .ref q) : ps_v X w = va_rf (r.map (ps_ad X)) := by
  rcases h with ⟨rfl, rfl⟩ | ⟨q, rfl, h40, rfl⟩
  · rfl
  · exact if_neg h40
theorem ps_ty4 {t : Nat} (h : 4 ≤ t) : ps_ty t = .object (pd_R (t - 4)) := by
  obtain ⟨j, rfl⟩ : ∃ j, t = j + 4 := ⟨t - 4, by omega⟩
  rfl
theorem ps_el4 {r t : Nat} (h4 : 4 ≤ t) : ps_el X h r t = .inr (.inr (.inr (.inr (fun j => (h.2.2.2 r j).map (ps_ad X))))) := by
  unfold ps_el
  rw [if_neg (by omega), if_neg (by omega)]
theorem ps_aaload  (hF : ps_F p s m args meth c k X) (hk : ∀ i ls st h, kk i ls st h = some x → ps_G p l e R s m args below meth c Q X k cE sE x i ls st h) (hok : pf_ok (pd_mm k) (pd_pcs k) (pd_pc k i) (pd_pc k (i + 1)) (.aaload, a, b, cc, v, tg) = true) (h0 : pm_sem (.aaload) a b cc v tg i kk call ls st h = some x) : ps_G p l e R s m args below meth c Q X k cE sE x i ls st h := by
  obtain ⟨hx, hb, hF⟩ := hF
  obtain ⟨hd, hn, hc⟩ := ps_ok (by intro q; cases q) hok
  dsimp only [pm_sem] at h0
  obtain ⟨-, -, -, -, -, hE, -⟩ := hF
  split at h0
  next y w t =>
    obtain ⟨g, h0⟩ := pm_go_n h0
    rw [Bool.and_eq_true, Bool.and_eq_true] at g
    have hq1 : (pm_kd h w).1 = 2 := Nat.eq_of_beq_eq_true g.1.1
    have hq4 : 4 ≤ (pm_kd h w).2.1 := Nat.le_of_ble_eq_true g.1.2
    have hin := pm_inb_in g.2
    have key : ∀ z : Value, ((h.2.2.2 w y.toNatClampNeg = none ∧ z = .null) ∨ ∃ q, h.2.2.2 w y.toNatClampNeg = some q ∧ q ≠ 40 ∧ z = .ref q) → kk (i + 1) ls (z :: t) h = some x → ps_G p l e R s m args below meth c Q X k cE sE x i ls (.int y :: .ref w :: t) h := by
      intro z hz h1
      refine ps_simple (hk _ _ _ _ h1) (fun H locs lsM cells slots hw hl hs K => ?_)
      rw [hn] at K
      have K : W p l e R s m args below meth c H locs cells slots Q (F0 m _ lsM (ps_v X z :: t.map (ps_v X))) := K
      rw [ps_ldv hz] at K
      show W p l e R s m args below meth c H locs cells slots Q (F0 m _ lsM (.int y :: ps_v X (.ref w) :: t.map (ps_v X)))
      rw [ps_vref hE hw (by rw [hq1]; decide)]
      rcases Nat.lt_or_ge w pm_NR with hr | hr
      · rcases ps_tab_ty hE hw hr hq1 with z | z <;> rw [z] at hq4 <;> exact absurd hq4 (by decide)
      · have ha := ps_arr hw hr hq1
        obtain ⟨t0, ht0⟩ := ps_tys_at (X := X) (ps_own_ty hw hr hq1)
        rw [ps_el4 hq4] at ha
        rw [ps_ty4 hq4] at ht0
        exact va_aldq hx hb hE.1 hw.2.2.1 (w - pm_NR) t0 ha ht0 hin hd K
    rcases pm_ldr_e h0 with ⟨e1, e2⟩ | ⟨q, e1, e2, e3⟩
    · exact key _ (Or.inl ⟨e1, rfl⟩) e2
    · exact key _ (Or.inr ⟨q, e1, e2, rfl⟩) e3
  next => cases h0

theorem ps_arraylength  (hF : ps_F p s m args meth c k X) (hk : ∀ i ls st h, kk i ls st h = some x → ps_G p l e R s m args below meth c Q X k cE sE x i ls st h) (hok : pf_ok (pd_mm k) (pd_pcs k) (pd_pc k i) (pd_pc k (i + 1)) (.arraylength, a, b, cc, v, tg) = true) (h0 : pm_sem (.arraylength) a b cc v tg i kk call ls st h = some x) : ps_G p l e R s m args below meth c Q X k cE sE x i ls st h := by
  obtain ⟨hx, hb, hF⟩ := hF
  obtain ⟨hd, hn, hc⟩ := ps_ok (by intro q; cases q) hok
  dsimp only [pm_sem] at h0
  obtain ⟨-, -, -, -, -, hE, -⟩ := hF
  split at h0
  next w t =>
    obtain ⟨g, h0⟩ := pm_go_n h0
    have hq1 : (pm_kd h w).1 = 2 := Nat.eq_of_beq_eq_true g
    refine ps_simple (hk _ _ _ _ h0) (fun H locs lsM cells slots hw hl hs K => ?_)
    rw [hn] at K
    show W p l e R s m args below meth c H locs cells slots Q (F0 m _ lsM (ps_v X (.ref w) :: t.map (ps_v X)))
    rw [ps_vref hE hw (by rw [hq1]; decide)]
    rcases Nat.lt_or_ge w pm_NR with hr | hr
    · exact va_tlen hx hb (ps_tab hE hw hr hq1) hs rfl hd K
    · obtain ⟨t0, ht0⟩ := ps_tys_at (X := X) (ps_own_ty hw hr hq1)
      exact va_alen hx hb hE.1 hw.2.2.1 (w - pm_NR) t0 (ps_arr hw hr hq1) ht0 rfl hd K
  next => cases h0

/-- behind a change of one own cell -/
theorem ps_wrote {h' : pm_H} {i2 : Nat} {st2 : List Value} (hG : ps_G p l e R s m args below meth c Q X k cE sE x i2 ls st2 h') (e1 : h'.1 = h.1) (hW : ∀ (H : Heap) (locs : List Loc) (lsM : Array Slot) (cells slots : Nat), ps_W X h H → ps_L X lsM (pd_mm k).2.2.1 ls → va_S (ps_A X) s.heap H locs → (∀ (H1 : Heap) (locs1 : List Loc), ps_W X h' H1 → va_S (ps_A X) s.heap H1 locs1 → W p l e R s m args below meth c H1 locs1 cells slots Q (F0 m (pd_pc k i2) lsM (st2.map (ps_v X)))) → W p l e R s m args below meth c H locs cells slots Q (F0 m (pd_pc k i) lsM (st.map (ps_v X)))) : ps_G p l e R s m args below meth c Q X k cE sE x i ls st h := by
  refine ⟨by have := hG.1; rw [e1] at this; exact this, fun H locs lsM cells slots q1 q2 hw hl hs => hW H locs lsM cells slots hw hl hs (fun H1 locs1 hw1 hs1 => hG.2 H1 locs1 lsM cells slots (by rw [e1]; exact q1) (by rw [e1]; exact q2) hw1 hl hs1)⟩
theorem ps_iastore  (hF : ps_F p s m args meth c k X) (hk : ∀ i ls st h, kk i ls st h = some x → ps_G p l e R s m args below meth c Q X k cE sE x i ls st h) (hok : pf_ok (pd_mm k) (pd_pcs k) (pd_pc k i) (pd_pc k (i + 1)) (.iastore, a, b, cc, v, tg) = true) (h0 : pm_sem (.iastore) a b cc v tg i kk call ls st h = some x) : ps_G p l e R s m args below meth c Q X k cE sE x i ls st h := by
  obtain ⟨hx, hb, hF⟩ := hF
  obtain ⟨hd, hn, hc⟩ := ps_ok (by intro q; cases q) hok
  dsimp only [pm_sem] at h0
  obtain ⟨-, -, -, -, -, hE, -⟩ := hF
  split at h0
  next z y w t =>
    obtain ⟨g, h0⟩ := pm_go_n h0
    simp only [Bool.and_eq_true] at g
    have hr : pm_NR ≤ w := Nat.le_of_ble_eq_true g.1
    have hq := pm_is_e g.2.1
    have hin := pm_inb_in g.2.2
    refine ps_wrote (hk _ _ _ _ h0) rfl (fun H locs lsM cells slots hw hl hs K => ?_)
    rw [hn] at K
    show W p l e R s m args below meth c H locs cells slots Q (F0 m _ lsM (.int z :: .int y :: ps_v X (.ref w) :: t.map (ps_v X)))
    rw [ps_vref hE hw (by rw [hq.1]; decide)]
    have ha := ps_arr hw hr hq.1
    rw [hq.2] at ha
    refine va_iast hx hb hE.1 hw.2.2.1 (ps_D X h) hs (w - pm_NR) 0 ha rfl hin hd (fun H1 locs1 hP hD hs1 => K H1 locs1 ?_ hs1)
    refine hw.put hr (hw.lt (by rw [hq.1]; decide)) rfl (fun j hj => ?_) ?_
    · simp [pm_setI, pm_up, hj]
    · rw [ps_E_arr (by exact hq.1)]
      show va_P _ _ ((ps_ws X h).set _ (_, .inl (X.2.2.2.1 (pm_kd h w).2.1, (pm_kd h w).2.2, ps_el X _ w (pm_kd h w).2.1))) _
      rw [hq.2]
      have e : ps_el X (pm_setI h w y.toNatClampNeg z) w 0 = .inl (upd (h.2.1 w) y.toNatClampNeg z) := by simp [ps_el, pm_setI, pm_up]
      rw [e]
      exact hP
  next => cases h0

theorem ps_bastore  (hF : ps_F p s m args meth c k X) (hk : ∀ i ls st h, kk i ls st h = some x → ps_G p l e R s m args below meth c Q X k cE sE x i ls st h) (hok : pf_ok (pd_mm k) (pd_pcs k) (pd_pc k i) (pd_pc k (i + 1)) (.bastore, a, b, cc, v, tg) = true) (h0 : pm_sem (.bastore) a b cc v tg i kk call ls st h = some x) : ps_G p l e R s m args below meth c Q X k cE sE x i ls st h := by
  obtain ⟨hx, hb, hF⟩ := hF
  obtain ⟨hd, hn, hc⟩ := ps_ok (by intro q; cases q) hok
  dsimp only [pm_sem] at h0
  obtain ⟨-, -, -, -, -, hE, -⟩ := hF
  split at h0
  next z y w t =>
    obtain ⟨g, h0⟩ := pm_go_n h0
    simp only [Bool.and_eq_true] at g
    have hr : pm_NR ≤ w := Nat.le_of_ble_eq_true g.1
    have hq := pm_is_e g.2.1
    have hin := pm_inb_in g.2.2.1
    refine ps_wrote (hk _ _ _ _ h0) rfl (fun H locs lsM cells slots hw hl hs K => ?_)
    rw [hn] at K
    show W p l e R s m args below meth c H locs cells slots Q (F0 m _ lsM (.int z :: .int y :: ps_v X (.ref w) :: t.map (ps_v X)))
    rw [ps_vref hE hw (by rw [hq.1]; decide)]
    have ha := ps_arr hw hr hq.1
    rw [hq.2] at ha
    refine va_zast hx hb hE.1 hw.2.2.1 (ps_D X h) hs (w - pm_NR) 1 ha rfl hin hd (fun H1 locs1 hP hD hs1 => K H1 locs1 ?_ hs1)
    refine hw.put hr (hw.lt (by rw [hq.1]; decide)) rfl (fun j hj => ?_) ?_
    · simp [pm_setI, pm_up, hj]
    · rw [ps_E_arr (by exact hq.1)]
      show va_P _ _ ((ps_ws X h).set _ (_, .inl (X.2.2.2.1 (pm_kd h w).2.1, (pm_kd h w).2.2, ps_el X _ w (pm_kd h w).2.1))) _
      rw [hq.2]
      have e : ps_el X (pm_setI h w y.toNatClampNeg z) w 1 = .inl (upd (h.2.1 w) y.toNatClampNeg z) := by simp [ps_el, pm_setI, pm_up]
      rw [e]
      rw [pm_nz g.2.2.2] at hP
      exact hP
  next => cases h0

theorem ps_lastore  (hF : ps_F p s m args meth c k X) (hk : ∀ i ls st h, kk i ls st h = some x → ps_G p l e R s m args below meth c Q X k cE sE x i ls st h) (hok : pf_ok (pd_mm k) (pd_pcs k) (pd_pc k i) (pd_pc k (i + 1)) (.lastore, a, b, cc, v, tg) = true) (h0 : pm_sem (.lastore) a b cc v tg i kk call ls st h = some x) : ps_G p l e R s m args below meth c Q X k cE sE x i ls st h := by
  obtain ⟨hx, hb, hF⟩ := hF
  obtain ⟨hd, hn, hc⟩ := ps_ok (by intro q; cases q) hok
  dsimp only [pm_sem] at h0
  obtain ⟨-, -, -, -, -, hE, -⟩ := hF
  split at h0
  next z y w t =>
    obtain ⟨g, h0⟩ := pm_go_n h0
    simp only [Bool.and_eq_true] at g
    have hr : pm_NR ≤ w := Nat.le_of_ble_eq_true g.1
    have hq := pm_is_e g.2.1
    have hin := pm_inb_in g.2.2
    refine ps_wrote (hk _ _ _ _ h0) rfl (fun H locs lsM cells slots hw hl hs K => ?_)
    rw [hn] at K
    show W p l e R s m args below meth c H locs cells slots Q (F0 m _ lsM (.long z :: .int y :: ps_v X (.ref w) :: t.map (ps_v X)))
    rw [ps_vref hE hw (by rw [hq.1]; decide)]
    have ha := ps_arr hw hr hq.1
    rw [hq.2] at ha
    refine va_last hx hb hE.1 hw.2.2.1 (ps_D X h) hs (w - pm_NR) 2 ha rfl hin hd (fun H1 locs1 hP hD hs1 => K H1 locs1 ?_ hs1)
    refine hw.put hr (hw.lt (by rw [hq.1]; decide)) rfl (fun j hj => ?_) ?_
    · simp [pm_setL, pm_up, hj]
    · rw [ps_E_arr (by exact hq.1)]
      show va_P _ _ ((ps_ws X h).set _ (_, .inl (X.2.2.2.1 (pm_kd h w).2.1, (pm_kd h w).2.2, ps_el X _ w (pm_kd h w).2.1))) _
      rw [hq.2]
      have e : ps_el X (pm_setL h w y.toNatClampNeg z) w 2 = .inr (.inl (vp_updL (h.2.2.1 w) y.toNatClampNeg z)) := by simp [ps_el, pm_setL, pm_up]
      rw [e]
      exact hP
  next => cases h0

end
