/-! each instruction that changes no cell -/
section
variable {p : Program} {l : Launch} {e : Env} {R : Room} {s : State} {m : MethodId} {args : Array Value} {below : List Frame} {meth : Method} {c : Code} {Q : State → Prop} {X : ps_X} {k cE sE : Nat} {x : Option Value × pm_H} {kk : pm_K} {call : Nat → List Value → pm_H → pm_R} {a b cc : Nat} {v : Value} {tg : List Nat} {i : Nat} {ls st : List Value} {h : pm_H}
theorem ps_simple {i2 : Nat} {st2 : List Value} (hG : ps_G p l e R s m args below meth c Q X k cE sE x i2 ls st2 h) (hW : ∀ (H : Heap) (locs : List Loc) (lsM : Array Slot) (cells slots : Nat), ps_W X h H → ps_L X lsM (pd_mm k).2.2.1 ls → va_S (ps_A X) s.heap H locs → W p l e R s m args below meth c H locs cells slots Q (F0 m (pd_pc k i2) lsM (st2.map (ps_v X))) → W p l e R s m args below meth c H locs cells slots Q (F0 m (pd_pc k i) lsM (st.map (ps_v X)))) : ps_G p l e R s m args below meth c Q X k cE sE x i ls st h :=
  ⟨hG.1, fun H locs lsM cells slots e1 e2 hw hl hs => hW H locs lsM cells slots hw hl hs (hG.2 H locs lsM cells slots e1 e2 hw hl hs)⟩
theorem ps_simpleL {i2 : Nat} {ls2 st2 : List Value} (hG : ps_G p l e R s m args below meth c Q X k cE sE x i2 ls2 st2 h) (hW : ∀ (H : Heap) (locs : List Loc) (lsM : Array Slot) (cells slots : Nat), ps_W X h H → ps_L X lsM (pd_mm k).2.2.1 ls → va_S (ps_A X) s.heap H locs → (∀ lsM2 : Array Slot, ps_L X lsM2 (pd_mm k).2.2.1 ls2 → W p l e R s m args below meth c H locs cells slots Q (F0 m (pd_pc k i2) lsM2 (st2.map (ps_v X)))) → W p l e R s m args below meth c H locs cells slots Q (F0 m (pd_pc k i) lsM (st.map (ps_v X)))) : ps_G p l e R s m args below meth c Q X k cE sE x i ls st h :=
  ⟨hG.1, fun H locs lsM cells slots e1 e2 hw hl hs => hW H locs lsM cells slots hw hl hs (fun lsM2 hl2 => hG.2 H locs lsM2 cells slots e1 e2 hw hl2 hs)⟩
theorem ps_iconst {n : Int} (hF : ps_F p s m args meth c k X) (hk : ∀ i ls st h, kk i ls st h = some x → ps_G p l e R s m args below meth c Q X k cE sE x i ls st h) (hok : pf_ok (pd_mm k) (pd_pcs k) (pd_pc k i) (pd_pc k (i + 1)) (.iconst n, a, b, cc, v, tg) = true) (h0 : pm_sem (.iconst n) a b cc v tg i kk call ls st h = some x) : ps_G p l e R s m args below meth c Q X k cE sE x i ls st h := by
  obtain ⟨hx, hb, hF⟩ := hF
  obtain ⟨hd, hn, hc⟩ := ps_ok (by intro q; cases q) hok
  dsimp only [pm_sem] at h0
  have hv := pf_vi_e hc
  subst hv
  refine ps_simple (hk _ _ _ _ h0) (fun H locs lsM cells slots hw hl hs K => ?_)
  rw [hn] at K
  exact lv_iconst hx hb hd rfl K

theorem ps_bipush {n : Int} (hF : ps_F p s m args meth c k X) (hk : ∀ i ls st h, kk i ls st h = some x → ps_G p l e R s m args below meth c Q X k cE sE x i ls st h) (hok : pf_ok (pd_mm k) (pd_pcs k) (pd_pc k i) (pd_pc k (i + 1)) (.bipush n, a, b, cc, v, tg) = true) (h0 : pm_sem (.bipush n) a b cc v tg i kk call ls st h = some x) : ps_G p l e R s m args below meth c Q X k cE sE x i ls st h := by
  obtain ⟨hx, hb, hF⟩ := hF
  obtain ⟨hd, hn, hc⟩ := ps_ok (by intro q; cases q) hok
  dsimp only [pm_sem] at h0
  have hv := pf_vi_e hc
  subst hv
  refine ps_simple (hk _ _ _ _ h0) (fun H locs lsM cells slots hw hl hs K => ?_)
  rw [hn] at K
  exact lv_bipush hx hb hd rfl K

theorem ps_sipush {n : Int} (hF : ps_F p s m args meth c k X) (hk : ∀ i ls st h, kk i ls st h = some x → ps_G p l e R s m args below meth c Q X k cE sE x i ls st h) (hok : pf_ok (pd_mm k) (pd_pcs k) (pd_pc k i) (pd_pc k (i + 1)) (.sipush n, a, b, cc, v, tg) = true) (h0 : pm_sem (.sipush n) a b cc v tg i kk call ls st h = some x) : ps_G p l e R s m args below meth c Q X k cE sE x i ls st h := by
  obtain ⟨hx, hb, hF⟩ := hF
  obtain ⟨hd, hn, hc⟩ := ps_ok (by intro q; cases q) hok
  dsimp only [pm_sem] at h0
  have hv := pf_vi_e hc
  subst hv
  refine ps_simple (hk _ _ _ _ h0) (fun H locs lsM cells slots hw hl hs K => ?_)
  rw [hn] at K
  exact lv_sipush hx hb hd rfl K

theorem ps_lconst {n : Fin 2} (hF : ps_F p s m args meth c k X) (hk : ∀ i ls st h, kk i ls st h = some x → ps_G p l e R s m args below meth c Q X k cE sE x i ls st h) (hok : pf_ok (pd_mm k) (pd_pcs k) (pd_pc k i) (pd_pc k (i + 1)) (.lconst n, a, b, cc, v, tg) = true) (h0 : pm_sem (.lconst n) a b cc v tg i kk call ls st h = some x) : ps_G p l e R s m args below meth c Q X k cE sE x i ls st h := by
  obtain ⟨hx, hb, hF⟩ := hF
  obtain ⟨hd, hn, hc⟩ := ps_ok (by intro q; cases q) hok
  dsimp only [pm_sem] at h0
  have hv := pf_vl_e hc
  subst hv
  refine ps_simple (hk _ _ _ _ h0) (fun H locs lsM cells slots hw hl hs K => ?_)
  rw [hn] at K
  exact lv_lconst hx hb hd rfl K

theorem ps_iload_n {n : Fin 4} (hF : ps_F p s m args meth c k X) (hk : ∀ i ls st h, kk i ls st h = some x → ps_G p l e R s m args below meth c Q X k cE sE x i ls st h) (hok : pf_ok (pd_mm k) (pd_pcs k) (pd_pc k i) (pd_pc k (i + 1)) (.iload_n n, a, b, cc, v, tg) = true) (h0 : pm_sem (.iload_n n) a b cc v tg i kk call ls st h = some x) : ps_G p l e R s m args below meth c Q X k cE sE x i ls st h := by
  obtain ⟨hx, hb, hF⟩ := hF
  obtain ⟨hd, hn, hc⟩ := ps_ok (by intro q; cases q) hok
  dsimp only [pm_sem] at h0
  split at h0
  next w hv =>
    refine ps_simple (hk _ _ _ _ h0) (fun H locs lsM cells slots hw hl hs K => ?_)
    rw [hn] at K
    exact lv_iload_n hx hb hd (Nat.eq_of_beq_eq_true hc) (hl.get hv (by intro q; cases q)) K
  next => cases h0

theorem ps_iload {n : Nat} (hF : ps_F p s m args meth c k X) (hk : ∀ i ls st h, kk i ls st h = some x → ps_G p l e R s m args below meth c Q X k cE sE x i ls st h) (hok : pf_ok (pd_mm k) (pd_pcs k) (pd_pc k i) (pd_pc k (i + 1)) (.iload n, a, b, cc, v, tg) = true) (h0 : pm_sem (.iload n) a b cc v tg i kk call ls st h = some x) : ps_G p l e R s m args below meth c Q X k cE sE x i ls st h := by
  obtain ⟨hx, hb, hF⟩ := hF
  obtain ⟨hd, hn, hc⟩ := ps_ok (by intro q; cases q) hok
  dsimp only [pm_sem] at h0
  split at h0
  next w hv =>
    refine ps_simple (hk _ _ _ _ h0) (fun H locs lsM cells slots hw hl hs K => ?_)
    rw [hn] at K
    have he := Nat.eq_of_beq_eq_true hc
    subst he
    exact lv_iload hx hb hd (hl.get hv (by intro q; cases q)) K
  next => cases h0

theorem ps_lload_n {n : Fin 4} (hF : ps_F p s m args meth c k X) (hk : ∀ i ls st h, kk i ls st h = some x → ps_G p l e R s m args below meth c Q X k cE sE x i ls st h) (hok : pf_ok (pd_mm k) (pd_pcs k) (pd_pc k i) (pd_pc k (i + 1)) (.lload_n n, a, b, cc, v, tg) = true) (h0 : pm_sem (.lload_n n) a b cc v tg i kk call ls st h = some x) : ps_G p l e R s m args below meth c Q X k cE sE x i ls st h := by
  obtain ⟨hx, hb, hF⟩ := hF
  obtain ⟨hd, hn, hc⟩ := ps_ok (by intro q; cases q) hok
  dsimp only [pm_sem] at h0
  split at h0
  next w hv =>
    refine ps_simple (hk _ _ _ _ h0) (fun H locs lsM cells slots hw hl hs K => ?_)
    rw [hn] at K
    exact lv_lload_n hx hb hd (Nat.eq_of_beq_eq_true hc) (hl.get hv (by intro q; cases q)) K
  next => cases h0

theorem ps_lload {n : Nat} (hF : ps_F p s m args meth c k X) (hk : ∀ i ls st h, kk i ls st h = some x → ps_G p l e R s m args below meth c Q X k cE sE x i ls st h) (hok : pf_ok (pd_mm k) (pd_pcs k) (pd_pc k i) (pd_pc k (i + 1)) (.lload n, a, b, cc, v, tg) = true) (h0 : pm_sem (.lload n) a b cc v tg i kk call ls st h = some x) : ps_G p l e R s m args below meth c Q X k cE sE x i ls st h := by
  obtain ⟨hx, hb, hF⟩ := hF
  obtain ⟨hd, hn, hc⟩ := ps_ok (by intro q; cases q) hok
  dsimp only [pm_sem] at h0
  split at h0
  next w hv =>
    refine ps_simple (hk _ _ _ _ h0) (fun H locs lsM cells slots hw hl hs K => ?_)
    rw [hn] at K
    have he := Nat.eq_of_beq_eq_true hc
    subst he
    exact lv_lload hx hb hd (hl.get hv (by intro q; cases q)) K
  next => cases h0

theorem ps_aload_n {n : Fin 4} (hF : ps_F p s m args meth c k X) (hk : ∀ i ls st h, kk i ls st h = some x → ps_G p l e R s m args below meth c Q X k cE sE x i ls st h) (hok : pf_ok (pd_mm k) (pd_pcs k) (pd_pc k i) (pd_pc k (i + 1)) (.aload_n n, a, b, cc, v, tg) = true) (h0 : pm_sem (.aload_n n) a b cc v tg i kk call ls st h = some x) : ps_G p l e R s m args below meth c Q X k cE sE x i ls st h := by
  obtain ⟨hx, hb, hF⟩ := hF
  obtain ⟨hd, hn, hc⟩ := ps_ok (by intro q; cases q) hok
  dsimp only [pm_sem] at h0
  obtain ⟨-, -, -, -, -, hE, -⟩ := hF
  split at h0
  next w hv =>
    refine ps_simple (hk _ _ _ _ h0) (fun H locs lsM cells slots hw hl hs K => ?_)
    rw [hn] at K
    have hg := hl.get hv (by intro q; cases q)
    have hnv := hE.2.2.2.2.2.2.2.1
    by_cases h40 : w = 40
    · subst h40
      have e40 : ps_v X (.ref 40) = X.2.2.1 := rfl
      rw [e40] at hg
      have K : W p l e R s m args below meth c H locs cells slots Q (F0 m _ lsM (ps_v X (.ref 40) :: st.map (ps_v X))) := K
      rw [e40] at K
      rcases hnv with hz | ⟨t, hz⟩
      · rw [hz] at hg K
        exact lv_aload_nN hx hb hd (Nat.eq_of_beq_eq_true hc) hg K
      · rw [hz] at hg K
        exact lv_aload_n hx hb hd (Nat.eq_of_beq_eq_true hc) hg K
    · have e40 : ps_v X (.ref w) = .ref (ps_ad X w) := if_neg h40
      rw [e40] at hg
      have K : W p l e R s m args below meth c H locs cells slots Q (F0 m _ lsM (ps_v X (.ref w) :: st.map (ps_v X))) := K
      rw [e40] at K
      exact lv_aload_n hx hb hd (Nat.eq_of_beq_eq_true hc) hg K
  next => cases h0

theorem ps_aload {n : Nat} (hF : ps_F p s m args meth c k X) (hk : ∀ i ls st h, kk i ls st h = some x → ps_G p l e R s m args below meth c Q X k cE sE x i ls st h) (hok : pf_ok (pd_mm k) (pd_pcs k) (pd_pc k i) (pd_pc k (i + 1)) (.aload n, a, b, cc, v, tg) = true) (h0 : pm_sem (.aload n) a b cc v tg i kk call ls st h = some x) : ps_G p l e R s m args below meth c Q X k cE sE x i ls st h := by
  obtain ⟨hx, hb, hF⟩ := hF
  obtain ⟨hd, hn, hc⟩ := ps_ok (by intro q; cases q) hok
  dsimp only [pm_sem] at h0
  obtain ⟨-, -, -, -, -, hE, -⟩ := hF
  split at h0
  next w hv =>
    refine ps_simple (hk _ _ _ _ h0) (fun H locs lsM cells slots hw hl hs K => ?_)
    rw [hn] at K
    have hg := hl.get hv (by intro q; cases q)
    have hnv := hE.2.2.2.2.2.2.2.1
    have he := Nat.eq_of_beq_eq_true hc
    subst he
    by_cases h40 : w = 40
    · subst h40
      have e40 : ps_v X (.ref 40) = X.2.2.1 := rfl
      rw [e40] at hg
      have K : W p l e R s m args below meth c H locs cells slots Q (F0 m _ lsM (ps_v X (.ref 40) :: st.map (ps_v X))) := K
      rw [e40] at K
      rcases hnv with hz | ⟨t, hz⟩
      · rw [hz] at hg K
        exact lv_aloadN hx hb hd hg K
      · rw [hz] at hg K
        exact lv_aload hx hb hd hg K
    · have e40 : ps_v X (.ref w) = .ref (ps_ad X w) := if_neg h40
      rw [e40] at hg
      have K : W p l e R s m args below meth c H locs cells slots Q (F0 m _ lsM (ps_v X (.ref w) :: st.map (ps_v X))) := K
      rw [e40] at K
      exact lv_aload hx hb hd hg K
  next => cases h0

theorem ps_istore_n {n : Fin 4} (hF : ps_F p s m args meth c k X) (hk : ∀ i ls st h, kk i ls st h = some x → ps_G p l e R s m args below meth c Q X k cE sE x i ls st h) (hok : pf_ok (pd_mm k) (pd_pcs k) (pd_pc k i) (pd_pc k (i + 1)) (.istore_n n, a, b, cc, v, tg) = true) (h0 : pm_sem (.istore_n n) a b cc v tg i kk call ls st h = some x) : ps_G p l e R s m args below meth c Q X k cE sE x i ls st h := by
  obtain ⟨hx, hb, hF⟩ := hF
  obtain ⟨hd, hn, hc⟩ := ps_ok (by intro q; cases q) hok
  dsimp only [pm_sem] at h0
  obtain ⟨-, -, -, -, -, hE, -⟩ := hF
  have hnv := hE.2.2.2.2.2.2.2.1
  have hc : (Nat.beq n a && Nat.ble (a + 1) (pd_mm k).2.2.1) = true := hc
  rw [Bool.and_eq_true] at hc
  have he := Nat.eq_of_beq_eq_true hc.1
  have hlt := Nat.le_of_ble_eq_true hc.2
  split at h0
  next w t =>
    refine ps_simpleL (hk _ _ _ _ h0) (fun H locs lsM cells slots hw hl hs K => ?_)
    obtain ⟨lv, lv', g1, g2, g3⟩ := hl.put1 hnv a (.int w)
    refine lv_istore_n (i := a) hx hb hd he g1 hlt g2 (fun lsM2 g4 => ?_)
    have K := K lsM2 (g3 lsM2 g4)
    rw [hn] at K
    exact K
  next => cases h0

theorem ps_istore {n : Nat} (hF : ps_F p s m args meth c k X) (hk : ∀ i ls st h, kk i ls st h = some x → ps_G p l e R s m args below meth c Q X k cE sE x i ls st h) (hok : pf_ok (pd_mm k) (pd_pcs k) (pd_pc k i) (pd_pc k (i + 1)) (.istore n, a, b, cc, v, tg) = true) (h0 : pm_sem (.istore n) a b cc v tg i kk call ls st h = some x) : ps_G p l e R s m args below meth c Q X k cE sE x i ls st h := by
  obtain ⟨hx, hb, hF⟩ := hF
  obtain ⟨hd, hn, hc⟩ := ps_ok (by intro q; cases q) hok
  dsimp only [pm_sem] at h0
  obtain ⟨-, -, -, -, -, hE, -⟩ := hF
  have hnv := hE.2.2.2.2.2.2.2.1
  have hc : (Nat.beq n a && Nat.ble (a + 1) (pd_mm k).2.2.1) = true := hc
  rw [Bool.and_eq_true] at hc
  have he := Nat.eq_of_beq_eq_true hc.1
  have hlt := Nat.le_of_ble_eq_true hc.2
  split at h0
  next w t =>
    refine ps_simpleL (hk _ _ _ _ h0) (fun H locs lsM cells slots hw hl hs K => ?_)
    obtain ⟨lv, lv', g1, g2, g3⟩ := hl.put1 hnv a (.int w)
    subst he
    refine lv_istore hx hb hd g1 hlt g2 (fun lsM2 g4 => ?_)
    have K := K lsM2 (g3 lsM2 g4)
    rw [hn] at K
    exact K
  next => cases h0

theorem ps_lstore_n {n : Fin 4} (hF : ps_F p s m args meth c k X) (hk : ∀ i ls st h, kk i ls st h = some x → ps_G p l e R s m args below meth c Q X k cE sE x i ls st h) (hok : pf_ok (pd_mm k) (pd_pcs k) (pd_pc k i) (pd_pc k (i + 1)) (.lstore_n n, a, b, cc, v, tg) = true) (h0 : pm_sem (.lstore_n n) a b cc v tg i kk call ls st h = some x) : ps_G p l e R s m args below meth c Q X k cE sE x i ls st h := by
  obtain ⟨hx, hb, hF⟩ := hF
  obtain ⟨hd, hn, hc⟩ := ps_ok (by intro q; cases q) hok
  dsimp only [pm_sem] at h0
  obtain ⟨-, -, -, -, -, hE, -⟩ := hF
  have hnv := hE.2.2.2.2.2.2.2.1
  have hc : (Nat.beq n a && Nat.ble (a + 2) (pd_mm k).2.2.1) = true := hc
  rw [Bool.and_eq_true] at hc
  have he := Nat.eq_of_beq_eq_true hc.1
  have hlt := Nat.le_of_ble_eq_true hc.2
  split at h0
  next w t =>
    refine ps_simpleL (hk _ _ _ _ h0) (fun H locs lsM cells slots hw hl hs K => ?_)
    obtain ⟨lv, lv', g1, g2, g3⟩ := hl.put2 hnv a (.long w)
    refine lv_lstore_n (i := a) hx hb hd he g1 hlt g2 (fun lsM2 g4 => ?_)
    have K := K lsM2 (g3 lsM2 g4)
    rw [hn] at K
    exact K
  next => cases h0

theorem ps_lstore {n : Nat} (hF : ps_F p s m args meth c k X) (hk : ∀ i ls st h, kk i ls st h = some x → ps_G p l e R s m args below meth c Q X k cE sE x i ls st h) (hok : pf_ok (pd_mm k) (pd_pcs k) (pd_pc k i) (pd_pc k (i + 1)) (.lstore n, a, b, cc, v, tg) = true) (h0 : pm_sem (.lstore n) a b cc v tg i kk call ls st h = some x) : ps_G p l e R s m args below meth c Q X k cE sE x i ls st h := by
  obtain ⟨hx, hb, hF⟩ := hF
  obtain ⟨hd, hn, hc⟩ := ps_ok (by intro q; cases q) hok
  dsimp only [pm_sem] at h0
  obtain ⟨-, -, -, -, -, hE, -⟩ := hF
  have hnv := hE.2.2.2.2.2.2.2.1
  have hc : (Nat.beq n a && Nat.ble (a + 2) (pd_mm k).2.2.1) = true := hc
  rw [Bool.and_eq_true] at hc
  have he := Nat.eq_of_beq_eq_true hc.1
  have hlt := Nat.le_of_ble_eq_true hc.2
  split at h0
  next w t =>
    refine ps_simpleL (hk _ _ _ _ h0) (fun H locs lsM cells slots hw hl hs K => ?_)
    obtain ⟨lv, lv', g1, g2, g3⟩ := hl.put2 hnv a (.long w)
    subst he
    refine lv_lstore hx hb hd g1 hlt g2 (fun lsM2 g4 => ?_)
    have K := K lsM2 (g3 lsM2 g4)
    rw [hn] at K
    exact K
  next => cases h0

theorem ps_astore_n {n : Fin 4} (hF : ps_F p s m args meth c k X) (hk : ∀ i ls st h, kk i ls st h = some x → ps_G p l e R s m args below meth c Q X k cE sE x i ls st h) (hok : pf_ok (pd_mm k) (pd_pcs k) (pd_pc k i) (pd_pc k (i + 1)) (.astore_n n, a, b, cc, v, tg) = true) (h0 : pm_sem (.astore_n n) a b cc v tg i kk call ls st h = some x) : ps_G p l e R s m args below meth c Q X k cE sE x i ls st h := by
  obtain ⟨hx, hb, hF⟩ := hF
  obtain ⟨hd, hn, hc⟩ := ps_ok (by intro q; cases q) hok
  dsimp only [pm_sem] at h0
  obtain ⟨-, -, -, -, -, hE, -⟩ := hF
  have hnv := hE.2.2.2.2.2.2.2.1
  have hc : (Nat.beq n a && Nat.ble (a + 1) (pd_mm k).2.2.1) = true := hc
  rw [Bool.and_eq_true] at hc
  have he := Nat.eq_of_beq_eq_true hc.1
  have hlt := Nat.le_of_ble_eq_true hc.2
  split at h0
  next w t =>
    refine ps_simpleL (hk _ _ _ _ h0) (fun H locs lsM cells slots hw hl hs K => ?_)
    obtain ⟨lv, lv', g1, g2, g3⟩ := hl.put1 hnv a (.ref w)
    have fin : ∀ lsM2 : Array Slot, lv_has lsM2 (pd_mm k).2.2.1 lv' → W p l e R s m args below meth c H locs cells slots Q (F0 m (pd_pc k i + 1) lsM2 (t.map (ps_v X))) := fun lsM2 g4 => by
      have K := K lsM2 (g3 lsM2 g4)
      rw [hn] at K
      exact K
    show W p l e R s m args below meth c H locs cells slots Q (F0 m _ lsM (ps_v X (.ref w) :: t.map (ps_v X)))
    by_cases h40 : w = 40
    · subst h40
      have e40 : ps_v X (.ref 40) = X.2.2.1 := rfl
      rw [e40] at g2 ⊢
      rcases hnv with hz | ⟨t, hz⟩
      · rw [hz] at g2 ⊢
        exact lv_astore_nN hx hb hd he g1 hlt g2 fin
      · rw [hz] at g2 ⊢
        exact lv_astore_n hx hb hd he g1 hlt g2 fin
    · have e40 : ps_v X (.ref w) = .ref (ps_ad X w) := if_neg h40
      rw [e40] at g2 ⊢
      exact lv_astore_n hx hb hd he g1 hlt g2 fin
  next => cases h0

theorem ps_astore {n : Nat} (hF : ps_F p s m args meth c k X) (hk : ∀ i ls st h, kk i ls st h = some x → ps_G p l e R s m args below meth c Q X k cE sE x i ls st h) (hok : pf_ok (pd_mm k) (pd_pcs k) (pd_pc k i) (pd_pc k (i + 1)) (.astore n, a, b, cc, v, tg) = true) (h0 : pm_sem (.astore n) a b cc v tg i kk call ls st h = some x) : ps_G p l e R s m args below meth c Q X k cE sE x i ls st h := by
  obtain ⟨hx, hb, hF⟩ := hF
  obtain ⟨hd, hn, hc⟩ := ps_ok (by intro q; cases q) hok
  dsimp only [pm_sem] at h0
  obtain ⟨-, -, -, -, -, hE, -⟩ := hF
  have hnv := hE.2.2.2.2.2.2.2.1
  have hc : (Nat.beq n a && Nat.ble (a + 1) (pd_mm k).2.2.1) = true := hc
  rw [Bool.and_eq_true] at hc
  have he := Nat.eq_of_beq_eq_true hc.1
  have hlt := Nat.le_of_ble_eq_true hc.2
  split at h0
  next w t =>
    refine ps_simpleL (hk _ _ _ _ h0) (fun H locs lsM cells slots hw hl hs K => ?_)
    obtain ⟨lv, lv', g1, g2, g3⟩ := hl.put1 hnv a (.ref w)
    subst he
    have fin : ∀ lsM2 : Array Slot, lv_has lsM2 (pd_mm k).2.2.1 lv' → W p l e R s m args below meth c H locs cells slots Q (F0 m (pd_pc k i + 2) lsM2 (t.map (ps_v X))) := fun lsM2 g4 => by
      have K := K lsM2 (g3 lsM2 g4)
      rw [hn] at K
      exact K
    show W p l e R s m args below meth c H locs cells slots Q (F0 m _ lsM (ps_v X (.ref w) :: t.map (ps_v X)))
    by_cases h40 : w = 40
    · subst h40
      have e40 : ps_v X (.ref 40) = X.2.2.1 := rfl
      rw [e40] at g2 ⊢
      rcases hnv with hz | ⟨t, hz⟩
      · rw [hz] at g2 ⊢
        exact lv_astoreN hx hb hd g1 hlt g2 fin
      · rw [hz] at g2 ⊢
        exact lv_astore hx hb hd g1 hlt g2 fin
    · have e40 : ps_v X (.ref w) = .ref (ps_ad X w) := if_neg h40
      rw [e40] at g2 ⊢
      exact lv_astore hx hb hd g1 hlt g2 fin
  next => cases h0

theorem ps_iinc {n : Nat} {d : Int} (hF : ps_F p s m args meth c k X) (hk : ∀ i ls st h, kk i ls st h = some x → ps_G p l e R s m args below meth c Q X k cE sE x i ls st h) (hok : pf_ok (pd_mm k) (pd_pcs k) (pd_pc k i) (pd_pc k (i + 1)) (.iinc n d, a, b, cc, v, tg) = true) (h0 : pm_sem (.iinc n d) a b cc v tg i kk call ls st h = some x) : ps_G p l e R s m args below meth c Q X k cE sE x i ls st h := by
  obtain ⟨hx, hb, hF⟩ := hF
  obtain ⟨hd, hn, hc⟩ := ps_ok (by intro q; cases q) hok
  dsimp only [pm_sem] at h0
  obtain ⟨-, -, -, -, -, hE, -⟩ := hF
  have hnv := hE.2.2.2.2.2.2.2.1
  have hc : (Nat.beq n a && (pf_vi v (Int32.ofInt d) && Nat.ble (a + 1) (pd_mm k).2.2.1)) = true := hc
  rw [Bool.and_eq_true, Bool.and_eq_true] at hc
  have he := Nat.eq_of_beq_eq_true hc.1
  have hv := pf_vi_e hc.2.1
  have hlt := Nat.le_of_ble_eq_true hc.2.2
  subst hv
  subst he
  split at h0
  next w y hv hy =>
    cases hy
    refine ps_simpleL (hk _ _ _ _ h0) (fun H locs lsM cells slots hw hl hs K => ?_)
    obtain ⟨lv0, -, hmem⟩ := id hl
    have hm : (n, Value.int w) ∈ lv0 := hmem n (.int w) hv (by intro q; cases q)
    obtain ⟨lv, lv', g1, g2, g3⟩ := hl.put1 hnv n (.int (w + Int32.ofInt d))
    have hg := hl.get hv (by intro q; cases q)
    have g1' : lv_has lsM (pd_mm k).2.2.1 ((n, Value.int w) :: lv) := ⟨g1.1, g1.2.1, fun q hq => by
      rcases List.mem_cons.mp hq with rfl | hq
      · exact hg
      · exact g1.2.2 q hq⟩
    have g2' : (n, Value.int (w + Int32.ofInt d)) :: ((n, Value.int w) :: lv).filter (fun q => !(q.1 == n) && !(q.1 + 1 == n && q.2.category == 2)) = lv' := by
      rw [← g2, List.filter_cons_of_neg (by simp)]
      rfl
    refine lv_iinc hx hb hd g1' (k := 0) rfl rfl hlt g2' (fun lsM2 g4 => ?_)
    have K := K lsM2 (g3 lsM2 g4)
    rw [hn] at K
    exact K
  next => cases h0

theorem ps_iadd  (hF : ps_F p s m args meth c k X) (hk : ∀ i ls st h, kk i ls st h = some x → ps_G p l e R s m args below meth c Q X k cE sE x i ls st h) (hok : pf_ok (pd_mm k) (pd_pcs k) (pd_pc k i) (pd_pc k (i + 1)) (.iadd, a, b, cc, v, tg) = true) (h0 : pm_sem (.iadd) a b cc v tg i kk call ls st h = some x) : ps_G p l e R s m args below meth c Q X k cE sE x i ls st h := by
  obtain ⟨hx, hb, hF⟩ := hF
  obtain ⟨hd, hn, hc⟩ := ps_ok (by intro q; cases q) hok
  dsimp only [pm_sem] at h0
  split at h0
  next y w t =>
    refine ps_simple (hk _ _ _ _ h0) (fun H locs lsM cells slots hw hl hs K => ?_)
    rw [hn] at K
    exact lv_iadd hx hb hd K
  next => cases h0

theorem ps_isub  (hF : ps_F p s m args meth c k X) (hk : ∀ i ls st h, kk i ls st h = some x → ps_G p l e R s m args below meth c Q X k cE sE x i ls st h) (hok : pf_ok (pd_mm k) (pd_pcs k) (pd_pc k i) (pd_pc k (i + 1)) (.isub, a, b, cc, v, tg) = true) (h0 : pm_sem (.isub) a b cc v tg i kk call ls st h = some x) : ps_G p l e R s m args below meth c Q X k cE sE x i ls st h := by
  obtain ⟨hx, hb, hF⟩ := hF
  obtain ⟨hd, hn, hc⟩ := ps_ok (by intro q; cases q) hok
  dsimp only [pm_sem] at h0
  split at h0
  next y w t =>
    refine ps_simple (hk _ _ _ _ h0) (fun H locs lsM cells slots hw hl hs K => ?_)
    rw [hn] at K
    exact lv_isub hx hb hd K
  next => cases h0

theorem ps_imul  (hF : ps_F p s m args meth c k X) (hk : ∀ i ls st h, kk i ls st h = some x → ps_G p l e R s m args below meth c Q X k cE sE x i ls st h) (hok : pf_ok (pd_mm k) (pd_pcs k) (pd_pc k i) (pd_pc k (i + 1)) (.imul, a, b, cc, v, tg) = true) (h0 : pm_sem (.imul) a b cc v tg i kk call ls st h = some x) : ps_G p l e R s m args below meth c Q X k cE sE x i ls st h := by
  obtain ⟨hx, hb, hF⟩ := hF
  obtain ⟨hd, hn, hc⟩ := ps_ok (by intro q; cases q) hok
  dsimp only [pm_sem] at h0
  split at h0
  next y w t =>
    refine ps_simple (hk _ _ _ _ h0) (fun H locs lsM cells slots hw hl hs K => ?_)
    rw [hn] at K
    exact lv_imul hx hb hd K
  next => cases h0

theorem ps_iand  (hF : ps_F p s m args meth c k X) (hk : ∀ i ls st h, kk i ls st h = some x → ps_G p l e R s m args below meth c Q X k cE sE x i ls st h) (hok : pf_ok (pd_mm k) (pd_pcs k) (pd_pc k i) (pd_pc k (i + 1)) (.iand, a, b, cc, v, tg) = true) (h0 : pm_sem (.iand) a b cc v tg i kk call ls st h = some x) : ps_G p l e R s m args below meth c Q X k cE sE x i ls st h := by
  obtain ⟨hx, hb, hF⟩ := hF
  obtain ⟨hd, hn, hc⟩ := ps_ok (by intro q; cases q) hok
  dsimp only [pm_sem] at h0
  split at h0
  next y w t =>
    refine ps_simple (hk _ _ _ _ h0) (fun H locs lsM cells slots hw hl hs K => ?_)
    rw [hn] at K
    exact lv_iand hx hb hd K
  next => cases h0

theorem ps_ior  (hF : ps_F p s m args meth c k X) (hk : ∀ i ls st h, kk i ls st h = some x → ps_G p l e R s m args below meth c Q X k cE sE x i ls st h) (hok : pf_ok (pd_mm k) (pd_pcs k) (pd_pc k i) (pd_pc k (i + 1)) (.ior, a, b, cc, v, tg) = true) (h0 : pm_sem (.ior) a b cc v tg i kk call ls st h = some x) : ps_G p l e R s m args below meth c Q X k cE sE x i ls st h := by
  obtain ⟨hx, hb, hF⟩ := hF
  obtain ⟨hd, hn, hc⟩ := ps_ok (by intro q; cases q) hok
  dsimp only [pm_sem] at h0
  split at h0
  next y w t =>
    refine ps_simple (hk _ _ _ _ h0) (fun H locs lsM cells slots hw hl hs K => ?_)
    rw [hn] at K
    exact lv_ior hx hb hd K
  next => cases h0

theorem ps_ixor  (hF : ps_F p s m args meth c k X) (hk : ∀ i ls st h, kk i ls st h = some x → ps_G p l e R s m args below meth c Q X k cE sE x i ls st h) (hok : pf_ok (pd_mm k) (pd_pcs k) (pd_pc k i) (pd_pc k (i + 1)) (.ixor, a, b, cc, v, tg) = true) (h0 : pm_sem (.ixor) a b cc v tg i kk call ls st h = some x) : ps_G p l e R s m args below meth c Q X k cE sE x i ls st h := by
  obtain ⟨hx, hb, hF⟩ := hF
  obtain ⟨hd, hn, hc⟩ := ps_ok (by intro q; cases q) hok
  dsimp only [pm_sem] at h0
  split at h0
  next y w t =>
    refine ps_simple (hk _ _ _ _ h0) (fun H locs lsM cells slots hw hl hs K => ?_)
    rw [hn] at K
    exact lv_ixor hx hb hd K
  next => cases h0

theorem ps_ishl  (hF : ps_F p s m args meth c k X) (hk : ∀ i ls st h, kk i ls st h = some x → ps_G p l e R s m args below meth c Q X k cE sE x i ls st h) (hok : pf_ok (pd_mm k) (pd_pcs k) (pd_pc k i) (pd_pc k (i + 1)) (.ishl, a, b, cc, v, tg) = true) (h0 : pm_sem (.ishl) a b cc v tg i kk call ls st h = some x) : ps_G p l e R s m args below meth c Q X k cE sE x i ls st h := by
  obtain ⟨hx, hb, hF⟩ := hF
  obtain ⟨hd, hn, hc⟩ := ps_ok (by intro q; cases q) hok
  dsimp only [pm_sem] at h0
  split at h0
  next y w t =>
    refine ps_simple (hk _ _ _ _ h0) (fun H locs lsM cells slots hw hl hs K => ?_)
    rw [hn] at K
    exact lv_ishl hx hb hd K
  next => cases h0

theorem ps_ishr  (hF : ps_F p s m args meth c k X) (hk : ∀ i ls st h, kk i ls st h = some x → ps_G p l e R s m args below meth c Q X k cE sE x i ls st h) (hok : pf_ok (pd_mm k) (pd_pcs k) (pd_pc k i) (pd_pc k (i + 1)) (.ishr, a, b, cc, v, tg) = true) (h0 : pm_sem (.ishr) a b cc v tg i kk call ls st h = some x) : ps_G p l e R s m args below meth c Q X k cE sE x i ls st h := by
  obtain ⟨hx, hb, hF⟩ := hF
  obtain ⟨hd, hn, hc⟩ := ps_ok (by intro q; cases q) hok
  dsimp only [pm_sem] at h0
  split at h0
  next y w t =>
    refine ps_simple (hk _ _ _ _ h0) (fun H locs lsM cells slots hw hl hs K => ?_)
    rw [hn] at K
    exact lv_ishr hx hb hd K
  next => cases h0

theorem ps_ladd  (hF : ps_F p s m args meth c k X) (hk : ∀ i ls st h, kk i ls st h = some x → ps_G p l e R s m args below meth c Q X k cE sE x i ls st h) (hok : pf_ok (pd_mm k) (pd_pcs k) (pd_pc k i) (pd_pc k (i + 1)) (.ladd, a, b, cc, v, tg) = true) (h0 : pm_sem (.ladd) a b cc v tg i kk call ls st h = some x) : ps_G p l e R s m args below meth c Q X k cE sE x i ls st h := by
  obtain ⟨hx, hb, hF⟩ := hF
  obtain ⟨hd, hn, hc⟩ := ps_ok (by intro q; cases q) hok
  dsimp only [pm_sem] at h0
  split at h0
  next y w t =>
    refine ps_simple (hk _ _ _ _ h0) (fun H locs lsM cells slots hw hl hs K => ?_)
    rw [hn] at K
    exact lv_ladd hx hb hd K
  next => cases h0

theorem ps_lsub  (hF : ps_F p s m args meth c k X) (hk : ∀ i ls st h, kk i ls st h = some x → ps_G p l e R s m args below meth c Q X k cE sE x i ls st h) (hok : pf_ok (pd_mm k) (pd_pcs k) (pd_pc k i) (pd_pc k (i + 1)) (.lsub, a, b, cc, v, tg) = true) (h0 : pm_sem (.lsub) a b cc v tg i kk call ls st h = some x) : ps_G p l e R s m args below meth c Q X k cE sE x i ls st h := by
  obtain ⟨hx, hb, hF⟩ := hF
  obtain ⟨hd, hn, hc⟩ := ps_ok (by intro q; cases q) hok
  dsimp only [pm_sem] at h0
  split at h0
  next y w t =>
    refine ps_simple (hk _ _ _ _ h0) (fun H locs lsM cells slots hw hl hs K => ?_)
    rw [hn] at K
    exact lv_lsub hx hb hd K
  next => cases h0

theorem ps_lmul  (hF : ps_F p s m args meth c k X) (hk : ∀ i ls st h, kk i ls st h = some x → ps_G p l e R s m args below meth c Q X k cE sE x i ls st h) (hok : pf_ok (pd_mm k) (pd_pcs k) (pd_pc k i) (pd_pc k (i + 1)) (.lmul, a, b, cc, v, tg) = true) (h0 : pm_sem (.lmul) a b cc v tg i kk call ls st h = some x) : ps_G p l e R s m args below meth c Q X k cE sE x i ls st h := by
  obtain ⟨hx, hb, hF⟩ := hF
  obtain ⟨hd, hn, hc⟩ := ps_ok (by intro q; cases q) hok
  dsimp only [pm_sem] at h0
  split at h0
  next y w t =>
    refine ps_simple (hk _ _ _ _ h0) (fun H locs lsM cells slots hw hl hs K => ?_)
    rw [hn] at K
    exact lv_lmul hx hb hd K
  next => cases h0

theorem ps_land  (hF : ps_F p s m args meth c k X) (hk : ∀ i ls st h, kk i ls st h = some x → ps_G p l e R s m args below meth c Q X k cE sE x i ls st h) (hok : pf_ok (pd_mm k) (pd_pcs k) (pd_pc k i) (pd_pc k (i + 1)) (.land, a, b, cc, v, tg) = true) (h0 : pm_sem (.land) a b cc v tg i kk call ls st h = some x) : ps_G p l e R s m args below meth c Q X k cE sE x i ls st h := by
  obtain ⟨hx, hb, hF⟩ := hF
  obtain ⟨hd, hn, hc⟩ := ps_ok (by intro q; cases q) hok
  dsimp only [pm_sem] at h0
  split at h0
  next y w t =>
    refine ps_simple (hk _ _ _ _ h0) (fun H locs lsM cells slots hw hl hs K => ?_)
    rw [hn] at K
    exact lv_land hx hb hd K
  next => cases h0

theorem ps_lor  (hF : ps_F p s m args meth c k X) (hk : ∀ i ls st h, kk i ls st h = some x → ps_G p l e R s m args below meth c Q X k cE sE x i ls st h) (hok : pf_ok (pd_mm k) (pd_pcs k) (pd_pc k i) (pd_pc k (i + 1)) (.lor, a, b, cc, v, tg) = true) (h0 : pm_sem (.lor) a b cc v tg i kk call ls st h = some x) : ps_G p l e R s m args below meth c Q X k cE sE x i ls st h := by
  obtain ⟨hx, hb, hF⟩ := hF
  obtain ⟨hd, hn, hc⟩ := ps_ok (by intro q; cases q) hok
  dsimp only [pm_sem] at h0
  split at h0
  next y w t =>
    refine ps_simple (hk _ _ _ _ h0) (fun H locs lsM cells slots hw hl hs K => ?_)
    rw [hn] at K
    exact lv_lor hx hb hd K
  next => cases h0

theorem ps_lshl  (hF : ps_F p s m args meth c k X) (hk : ∀ i ls st h, kk i ls st h = some x → ps_G p l e R s m args below meth c Q X k cE sE x i ls st h) (hok : pf_ok (pd_mm k) (pd_pcs k) (pd_pc k i) (pd_pc k (i + 1)) (.lshl, a, b, cc, v, tg) = true) (h0 : pm_sem (.lshl) a b cc v tg i kk call ls st h = some x) : ps_G p l e R s m args below meth c Q X k cE sE x i ls st h := by
  obtain ⟨hx, hb, hF⟩ := hF
  obtain ⟨hd, hn, hc⟩ := ps_ok (by intro q; cases q) hok
  dsimp only [pm_sem] at h0
  split at h0
  next y w t =>
    refine ps_simple (hk _ _ _ _ h0) (fun H locs lsM cells slots hw hl hs K => ?_)
    rw [hn] at K
    exact lv_lshl hx hb hd rfl K
  next => cases h0

theorem ps_lshr  (hF : ps_F p s m args meth c k X) (hk : ∀ i ls st h, kk i ls st h = some x → ps_G p l e R s m args below meth c Q X k cE sE x i ls st h) (hok : pf_ok (pd_mm k) (pd_pcs k) (pd_pc k i) (pd_pc k (i + 1)) (.lshr, a, b, cc, v, tg) = true) (h0 : pm_sem (.lshr) a b cc v tg i kk call ls st h = some x) : ps_G p l e R s m args below meth c Q X k cE sE x i ls st h := by
  obtain ⟨hx, hb, hF⟩ := hF
  obtain ⟨hd, hn, hc⟩ := ps_ok (by intro q; cases q) hok
  dsimp only [pm_sem] at h0
  split at h0
  next y w t =>
    refine ps_simple (hk _ _ _ _ h0) (fun H locs lsM cells slots hw hl hs K => ?_)
    rw [hn] at K
    exact lv_lshr hx hb hd rfl K
  next => cases h0

theorem ps_lcmp  (hF : ps_F p s m args meth c k X) (hk : ∀ i ls st h, kk i ls st h = some x → ps_G p l e R s m args below meth c Q X k cE sE x i ls st h) (hok : pf_ok (pd_mm k) (pd_pcs k) (pd_pc k i) (pd_pc k (i + 1)) (.lcmp, a, b, cc, v, tg) = true) (h0 : pm_sem (.lcmp) a b cc v tg i kk call ls st h = some x) : ps_G p l e R s m args below meth c Q X k cE sE x i ls st h := by
  obtain ⟨hx, hb, hF⟩ := hF
  obtain ⟨hd, hn, hc⟩ := ps_ok (by intro q; cases q) hok
  dsimp only [pm_sem] at h0
  split at h0
  next y w t =>
    refine ps_simple (hk _ _ _ _ h0) (fun H locs lsM cells slots hw hl hs K => ?_)
    rw [hn] at K
    exact W.lcmp hx hb hd K
  next => cases h0

theorem ps_idiv  (hF : ps_F p s m args meth c k X) (hk : ∀ i ls st h, kk i ls st h = some x → ps_G p l e R s m args below meth c Q X k cE sE x i ls st h) (hok : pf_ok (pd_mm k) (pd_pcs k) (pd_pc k i) (pd_pc k (i + 1)) (.idiv, a, b, cc, v, tg) = true) (h0 : pm_sem (.idiv) a b cc v tg i kk call ls st h = some x) : ps_G p l e R s m args below meth c Q X k cE sE x i ls st h := by
  obtain ⟨hx, hb, hF⟩ := hF
  obtain ⟨hd, hn, hc⟩ := ps_ok (by intro q; cases q) hok
  dsimp only [pm_sem] at h0
  split at h0
  next y w t =>
    obtain ⟨g, h0⟩ := pm_go_n h0
    refine ps_simple (hk _ _ _ _ h0) (fun H locs lsM cells slots hw hl hs K => ?_)
    rw [hn] at K
    exact lv_idiv hx hb hd (by simpa using g) K
  next => cases h0

theorem ps_irem  (hF : ps_F p s m args meth c k X) (hk : ∀ i ls st h, kk i ls st h = some x → ps_G p l e R s m args below meth c Q X k cE sE x i ls st h) (hok : pf_ok (pd_mm k) (pd_pcs k) (pd_pc k i) (pd_pc k (i + 1)) (.irem, a, b, cc, v, tg) = true) (h0 : pm_sem (.irem) a b cc v tg i kk call ls st h = some x) : ps_G p l e R s m args below meth c Q X k cE sE x i ls st h := by
  obtain ⟨hx, hb, hF⟩ := hF
  obtain ⟨hd, hn, hc⟩ := ps_ok (by intro q; cases q) hok
  dsimp only [pm_sem] at h0
  split at h0
  next y w t =>
    obtain ⟨g, h0⟩ := pm_go_n h0
    refine ps_simple (hk _ _ _ _ h0) (fun H locs lsM cells slots hw hl hs K => ?_)
    rw [hn] at K
    exact lv_irem hx hb hd (by simpa using g) K
  next => cases h0

theorem ps_ldiv  (hF : ps_F p s m args meth c k X) (hk : ∀ i ls st h, kk i ls st h = some x → ps_G p l e R s m args below meth c Q X k cE sE x i ls st h) (hok : pf_ok (pd_mm k) (pd_pcs k) (pd_pc k i) (pd_pc k (i + 1)) (.ldiv, a, b, cc, v, tg) = true) (h0 : pm_sem (.ldiv) a b cc v tg i kk call ls st h = some x) : ps_G p l e R s m args below meth c Q X k cE sE x i ls st h := by
  obtain ⟨hx, hb, hF⟩ := hF
  obtain ⟨hd, hn, hc⟩ := ps_ok (by intro q; cases q) hok
  dsimp only [pm_sem] at h0
  split at h0
  next y w t =>
    obtain ⟨g, h0⟩ := pm_go_n h0
    refine ps_simple (hk _ _ _ _ h0) (fun H locs lsM cells slots hw hl hs K => ?_)
    rw [hn] at K
    exact lv_ldiv hx hb hd (by simpa using g) K
  next => cases h0

theorem ps_lrem  (hF : ps_F p s m args meth c k X) (hk : ∀ i ls st h, kk i ls st h = some x → ps_G p l e R s m args below meth c Q X k cE sE x i ls st h) (hok : pf_ok (pd_mm k) (pd_pcs k) (pd_pc k i) (pd_pc k (i + 1)) (.lrem, a, b, cc, v, tg) = true) (h0 : pm_sem (.lrem) a b cc v tg i kk call ls st h = some x) : ps_G p l e R s m args below meth c Q X k cE sE x i ls st h := by
  obtain ⟨hx, hb, hF⟩ := hF
  obtain ⟨hd, hn, hc⟩ := ps_ok (by intro q; cases q) hok
  dsimp only [pm_sem] at h0
  split at h0
  next y w t =>
    obtain ⟨g, h0⟩ := pm_go_n h0
    refine ps_simple (hk _ _ _ _ h0) (fun H locs lsM cells slots hw hl hs K => ?_)
    rw [hn] at K
    exact lv_lrem hx hb hd (by simpa using g) K
  next => cases h0

theorem ps_ineg  (hF : ps_F p s m args meth c k X) (hk : ∀ i ls st h, kk i ls st h = some x → ps_G p l e R s m args below meth c Q X k cE sE x i ls st h) (hok : pf_ok (pd_mm k) (pd_pcs k) (pd_pc k i) (pd_pc k (i + 1)) (.ineg, a, b, cc, v, tg) = true) (h0 : pm_sem (.ineg) a b cc v tg i kk call ls st h = some x) : ps_G p l e R s m args below meth c Q X k cE sE x i ls st h := by
  obtain ⟨hx, hb, hF⟩ := hF
  obtain ⟨hd, hn, hc⟩ := ps_ok (by intro q; cases q) hok
  dsimp only [pm_sem] at h0
  split at h0
  next w t =>
    refine ps_simple (hk _ _ _ _ h0) (fun H locs lsM cells slots hw hl hs K => ?_)
    rw [hn] at K
    exact lv_ineg hx hb hd K
  next => cases h0

theorem ps_lneg  (hF : ps_F p s m args meth c k X) (hk : ∀ i ls st h, kk i ls st h = some x → ps_G p l e R s m args below meth c Q X k cE sE x i ls st h) (hok : pf_ok (pd_mm k) (pd_pcs k) (pd_pc k i) (pd_pc k (i + 1)) (.lneg, a, b, cc, v, tg) = true) (h0 : pm_sem (.lneg) a b cc v tg i kk call ls st h = some x) : ps_G p l e R s m args below meth c Q X k cE sE x i ls st h := by
  obtain ⟨hx, hb, hF⟩ := hF
  obtain ⟨hd, hn, hc⟩ := ps_ok (by intro q; cases q) hok
  dsimp only [pm_sem] at h0
  split at h0
  next w t =>
    refine ps_simple (hk _ _ _ _ h0) (fun H locs lsM cells slots hw hl hs K => ?_)
    rw [hn] at K
    exact lv_lneg hx hb hd K
  next => cases h0

theorem ps_i2l  (hF : ps_F p s m args meth c k X) (hk : ∀ i ls st h, kk i ls st h = some x → ps_G p l e R s m args below meth c Q X k cE sE x i ls st h) (hok : pf_ok (pd_mm k) (pd_pcs k) (pd_pc k i) (pd_pc k (i + 1)) (.i2l, a, b, cc, v, tg) = true) (h0 : pm_sem (.i2l) a b cc v tg i kk call ls st h = some x) : ps_G p l e R s m args below meth c Q X k cE sE x i ls st h := by
  obtain ⟨hx, hb, hF⟩ := hF
  obtain ⟨hd, hn, hc⟩ := ps_ok (by intro q; cases q) hok
  dsimp only [pm_sem] at h0
  split at h0
  next w t =>
    refine ps_simple (hk _ _ _ _ h0) (fun H locs lsM cells slots hw hl hs K => ?_)
    rw [hn] at K
    exact lv_i2l hx hb hd rfl K
  next => cases h0

theorem ps_l2i  (hF : ps_F p s m args meth c k X) (hk : ∀ i ls st h, kk i ls st h = some x → ps_G p l e R s m args below meth c Q X k cE sE x i ls st h) (hok : pf_ok (pd_mm k) (pd_pcs k) (pd_pc k i) (pd_pc k (i + 1)) (.l2i, a, b, cc, v, tg) = true) (h0 : pm_sem (.l2i) a b cc v tg i kk call ls st h = some x) : ps_G p l e R s m args below meth c Q X k cE sE x i ls st h := by
  obtain ⟨hx, hb, hF⟩ := hF
  obtain ⟨hd, hn, hc⟩ := ps_ok (by intro q; cases q) hok
  dsimp only [pm_sem] at h0
  split at h0
  next w t =>
    refine ps_simple (hk _ _ _ _ h0) (fun H locs lsM cells slots hw hl hs K => ?_)
    rw [hn] at K
    exact lv_l2i hx hb hd rfl K
  next => cases h0

theorem ps_i2c  (hF : ps_F p s m args meth c k X) (hk : ∀ i ls st h, kk i ls st h = some x → ps_G p l e R s m args below meth c Q X k cE sE x i ls st h) (hok : pf_ok (pd_mm k) (pd_pcs k) (pd_pc k i) (pd_pc k (i + 1)) (.i2c, a, b, cc, v, tg) = true) (h0 : pm_sem (.i2c) a b cc v tg i kk call ls st h = some x) : ps_G p l e R s m args below meth c Q X k cE sE x i ls st h := by
  obtain ⟨hx, hb, hF⟩ := hF
  obtain ⟨hd, hn, hc⟩ := ps_ok (by intro q; cases q) hok
  dsimp only [pm_sem] at h0
  split at h0
  next w t =>
    refine ps_simple (hk _ _ _ _ h0) (fun H locs lsM cells slots hw hl hs K => ?_)
    rw [hn] at K
    exact lv_i2c hx hb hd rfl K
  next => cases h0

theorem ps_dup  (hF : ps_F p s m args meth c k X) (hk : ∀ i ls st h, kk i ls st h = some x → ps_G p l e R s m args below meth c Q X k cE sE x i ls st h) (hok : pf_ok (pd_mm k) (pd_pcs k) (pd_pc k i) (pd_pc k (i + 1)) (.dup, a, b, cc, v, tg) = true) (h0 : pm_sem (.dup) a b cc v tg i kk call ls st h = some x) : ps_G p l e R s m args below meth c Q X k cE sE x i ls st h := by
  obtain ⟨hx, hb, hF⟩ := hF
  obtain ⟨hd, hn, hc⟩ := ps_ok (by intro q; cases q) hok
  dsimp only [pm_sem] at h0
  obtain ⟨-, -, -, -, -, hE, -⟩ := hF
  have hnv := hE.2.2.2.2.2.2.2.1
  split at h0
  next w t =>
    refine ps_simple (hk _ _ _ _ h0) (fun H locs lsM cells slots hw hl hs K => ?_)
    rw [hn] at K
    exact lv_dup hx hb hd rfl K
  next w t =>
    refine ps_simple (hk _ _ _ _ h0) (fun H locs lsM cells slots hw hl hs K => ?_)
    rw [hn] at K
    exact lv_dup hx hb hd (ps_v_cat hnv (.ref w)) K
  next => cases h0

theorem ps_dup2  (hF : ps_F p s m args meth c k X) (hk : ∀ i ls st h, kk i ls st h = some x → ps_G p l e R s m args below meth c Q X k cE sE x i ls st h) (hok : pf_ok (pd_mm k) (pd_pcs k) (pd_pc k i) (pd_pc k (i + 1)) (.dup2, a, b, cc, v, tg) = true) (h0 : pm_sem (.dup2) a b cc v tg i kk call ls st h = some x) : ps_G p l e R s m args below meth c Q X k cE sE x i ls st h := by
  obtain ⟨hx, hb, hF⟩ := hF
  obtain ⟨hd, hn, hc⟩ := ps_ok (by intro q; cases q) hok
  dsimp only [pm_sem] at h0
  obtain ⟨-, -, -, -, -, hE, -⟩ := hF
  have hnv := hE.2.2.2.2.2.2.2.1
  split at h0
  next w t =>
    refine ps_simple (hk _ _ _ _ h0) (fun H locs lsM cells slots hw hl hs K => ?_)
    rw [hn] at K
    exact lv_dup2_2 hx hb hd rfl K
  next y w t =>
    refine ps_simple (hk _ _ _ _ h0) (fun H locs lsM cells slots hw hl hs K => ?_)
    rw [hn] at K
    exact lv_dup2_11 hx hb hd rfl (ps_v_cat hnv (.ref w)) K
  next => cases h0

theorem ps_pop  (hF : ps_F p s m args meth c k X) (hk : ∀ i ls st h, kk i ls st h = some x → ps_G p l e R s m args below meth c Q X k cE sE x i ls st h) (hok : pf_ok (pd_mm k) (pd_pcs k) (pd_pc k i) (pd_pc k (i + 1)) (.pop, a, b, cc, v, tg) = true) (h0 : pm_sem (.pop) a b cc v tg i kk call ls st h = some x) : ps_G p l e R s m args below meth c Q X k cE sE x i ls st h := by
  obtain ⟨hx, hb, hF⟩ := hF
  obtain ⟨hd, hn, hc⟩ := ps_ok (by intro q; cases q) hok
  dsimp only [pm_sem] at h0
  split at h0
  next w t =>
    refine ps_simple (hk _ _ _ _ h0) (fun H locs lsM cells slots hw hl hs K => ?_)
    rw [hn] at K
    exact lv_pop hx hb hd rfl K
  next => cases h0

theorem ps_goto {off : Int} (hF : ps_F p s m args meth c k X) (hk : ∀ i ls st h, kk i ls st h = some x → ps_G p l e R s m args below meth c Q X k cE sE x i ls st h) (hok : pf_ok (pd_mm k) (pd_pcs k) (pd_pc k i) (pd_pc k (i + 1)) (.goto off, a, b, cc, v, tg) = true) (h0 : pm_sem (.goto off) a b cc v tg i kk call ls st h = some x) : ps_G p l e R s m args below meth c Q X k cE sE x i ls st h := by
  obtain ⟨hx, hb, hF⟩ := hF
  obtain ⟨hd, hn, hc⟩ := ps_ok (by intro q; cases q) hok
  dsimp only [pm_sem] at h0
  have ht := of_decide_eq_true hc
  refine ps_simple (hk _ _ _ _ h0) (fun H locs lsM cells slots hw hl hs K => ?_)
  exact lv_goto hx hb hd ht K

theorem ps_ifCond_eq {off : Int} (hF : ps_F p s m args meth c k X) (hk : ∀ i ls st h, kk i ls st h = some x → ps_G p l e R s m args below meth c Q X k cE sE x i ls st h) (hok : pf_ok (pd_mm k) (pd_pcs k) (pd_pc k i) (pd_pc k (i + 1)) (.ifCond .eq off, a, b, cc, v, tg) = true) (h0 : pm_sem (.ifCond .eq off) a b cc v tg i kk call ls st h = some x) : ps_G p l e R s m args below meth c Q X k cE sE x i ls st h := by
  obtain ⟨hx, hb, hF⟩ := hF
  obtain ⟨hd, hn, hc⟩ := ps_ok (by intro q; cases q) hok
  dsimp only [pm_sem] at h0
  have ht := of_decide_eq_true hc
  split at h0
  next w t =>
    split at h0
    next q =>
      refine ps_simple (hk _ _ _ _ h0) (fun H locs lsM cells slots hw hl hs K => ?_)
      exact lv_if_eq hx hb hd ht (fun _ => K) (fun z => absurd q z)
    next q =>
      refine ps_simple (hk _ _ _ _ h0) (fun H locs lsM cells slots hw hl hs K => ?_)
      rw [hn] at K
      exact lv_if_eq hx hb hd ht (fun z => absurd z q) (fun _ => K)
  next => cases h0

theorem ps_ifCond_ne {off : Int} (hF : ps_F p s m args meth c k X) (hk : ∀ i ls st h, kk i ls st h = some x → ps_G p l e R s m args below meth c Q X k cE sE x i ls st h) (hok : pf_ok (pd_mm k) (pd_pcs k) (pd_pc k i) (pd_pc k (i + 1)) (.ifCond .ne off, a, b, cc, v, tg) = true) (h0 : pm_sem (.ifCond .ne off) a b cc v tg i kk call ls st h = some x) : ps_G p l e R s m args below meth c Q X k cE sE x i ls st h := by
  obtain ⟨hx, hb, hF⟩ := hF
  obtain ⟨hd, hn, hc⟩ := ps_ok (by intro q; cases q) hok
  dsimp only [pm_sem] at h0
  have ht := of_decide_eq_true hc
  split at h0
  next w t =>
    split at h0
    next q =>
      refine ps_simple (hk _ _ _ _ h0) (fun H locs lsM cells slots hw hl hs K => ?_)
      rw [hn] at K
      exact lv_if_ne hx hb hd ht (fun z => absurd q z) (fun _ => K)
    next q =>
      refine ps_simple (hk _ _ _ _ h0) (fun H locs lsM cells slots hw hl hs K => ?_)
      exact lv_if_ne hx hb hd ht (fun _ => K) (fun z => absurd z q)
  next => cases h0

theorem ps_ifCond_lt {off : Int} (hF : ps_F p s m args meth c k X) (hk : ∀ i ls st h, kk i ls st h = some x → ps_G p l e R s m args below meth c Q X k cE sE x i ls st h) (hok : pf_ok (pd_mm k) (pd_pcs k) (pd_pc k i) (pd_pc k (i + 1)) (.ifCond .lt off, a, b, cc, v, tg) = true) (h0 : pm_sem (.ifCond .lt off) a b cc v tg i kk call ls st h = some x) : ps_G p l e R s m args below meth c Q X k cE sE x i ls st h := by
  obtain ⟨hx, hb, hF⟩ := hF
  obtain ⟨hd, hn, hc⟩ := ps_ok (by intro q; cases q) hok
  dsimp only [pm_sem] at h0
  have ht := of_decide_eq_true hc
  split at h0
  next w t =>
    split at h0
    next q =>
      refine ps_simple (hk _ _ _ _ h0) (fun H locs lsM cells slots hw hl hs K => ?_)
      exact lv_if_lt hx hb hd ht (fun _ => K) (fun z => absurd q z)
    next q =>
      refine ps_simple (hk _ _ _ _ h0) (fun H locs lsM cells slots hw hl hs K => ?_)
      rw [hn] at K
      exact lv_if_lt hx hb hd ht (fun z => absurd z q) (fun _ => K)
  next => cases h0

theorem ps_ifCond_ge {off : Int} (hF : ps_F p s m args meth c k X) (hk : ∀ i ls st h, kk i ls st h = some x → ps_G p l e R s m args below meth c Q X k cE sE x i ls st h) (hok : pf_ok (pd_mm k) (pd_pcs k) (pd_pc k i) (pd_pc k (i + 1)) (.ifCond .ge off, a, b, cc, v, tg) = true) (h0 : pm_sem (.ifCond .ge off) a b cc v tg i kk call ls st h = some x) : ps_G p l e R s m args below meth c Q X k cE sE x i ls st h := by
  obtain ⟨hx, hb, hF⟩ := hF
  obtain ⟨hd, hn, hc⟩ := ps_ok (by intro q; cases q) hok
  dsimp only [pm_sem] at h0
  have ht := of_decide_eq_true hc
  split at h0
  next w t =>
    split at h0
    next q =>
      refine ps_simple (hk _ _ _ _ h0) (fun H locs lsM cells slots hw hl hs K => ?_)
      rw [hn] at K
      exact lv_if_ge hx hb hd ht (fun z => absurd q (Int32.not_lt.mpr z)) (fun _ => K)
    next q =>
      refine ps_simple (hk _ _ _ _ h0) (fun H locs lsM cells slots hw hl hs K => ?_)
      exact lv_if_ge hx hb hd ht (fun _ => K) (fun z => absurd (Int32.not_lt.mp q) z)
  next => cases h0

theorem ps_ifCond_gt {off : Int} (hF : ps_F p s m args meth c k X) (hk : ∀ i ls st h, kk i ls st h = some x → ps_G p l e R s m args below meth c Q X k cE sE x i ls st h) (hok : pf_ok (pd_mm k) (pd_pcs k) (pd_pc k i) (pd_pc k (i + 1)) (.ifCond .gt off, a, b, cc, v, tg) = true) (h0 : pm_sem (.ifCond .gt off) a b cc v tg i kk call ls st h = some x) : ps_G p l e R s m args below meth c Q X k cE sE x i ls st h := by
  obtain ⟨hx, hb, hF⟩ := hF
  obtain ⟨hd, hn, hc⟩ := ps_ok (by intro q; cases q) hok
  dsimp only [pm_sem] at h0
  have ht := of_decide_eq_true hc
  split at h0
  next w t =>
    split at h0
    next q =>
      refine ps_simple (hk _ _ _ _ h0) (fun H locs lsM cells slots hw hl hs K => ?_)
      exact lv_if_gt hx hb hd ht (fun _ => K) (fun z => absurd q z)
    next q =>
      refine ps_simple (hk _ _ _ _ h0) (fun H locs lsM cells slots hw hl hs K => ?_)
      rw [hn] at K
      exact lv_if_gt hx hb hd ht (fun z => absurd z q) (fun _ => K)
  next => cases h0

theorem ps_ifCond_le {off : Int} (hF : ps_F p s m args meth c k X) (hk : ∀ i ls st h, kk i ls st h = some x → ps_G p l e R s m args below meth c Q X k cE sE x i ls st h) (hok : pf_ok (pd_mm k) (pd_pcs k) (pd_pc k i) (pd_pc k (i + 1)) (.ifCond .le off, a, b, cc, v, tg) = true) (h0 : pm_sem (.ifCond .le off) a b cc v tg i kk call ls st h = some x) : ps_G p l e R s m args below meth c Q X k cE sE x i ls st h := by
  obtain ⟨hx, hb, hF⟩ := hF
  obtain ⟨hd, hn, hc⟩ := ps_ok (by intro q; cases q) hok
  dsimp only [pm_sem] at h0
  have ht := of_decide_eq_true hc
  split at h0
  next w t =>
    split at h0
    next q =>
      refine ps_simple (hk _ _ _ _ h0) (fun H locs lsM cells slots hw hl hs K => ?_)
      rw [hn] at K
      exact lv_if_le hx hb hd ht (fun z => absurd q (Int32.not_lt.mpr z)) (fun _ => K)
    next q =>
      refine ps_simple (hk _ _ _ _ h0) (fun H locs lsM cells slots hw hl hs K => ?_)
      exact lv_if_le hx hb hd ht (fun _ => K) (fun z => absurd (Int32.not_lt.mp q) z)
  next => cases h0

theorem ps_if_icmp_eq {off : Int} (hF : ps_F p s m args meth c k X) (hk : ∀ i ls st h, kk i ls st h = some x → ps_G p l e R s m args below meth c Q X k cE sE x i ls st h) (hok : pf_ok (pd_mm k) (pd_pcs k) (pd_pc k i) (pd_pc k (i + 1)) (.if_icmp .eq off, a, b, cc, v, tg) = true) (h0 : pm_sem (.if_icmp .eq off) a b cc v tg i kk call ls st h = some x) : ps_G p l e R s m args below meth c Q X k cE sE x i ls st h := by
  obtain ⟨hx, hb, hF⟩ := hF
  obtain ⟨hd, hn, hc⟩ := ps_ok (by intro q; cases q) hok
  dsimp only [pm_sem] at h0
  have ht := of_decide_eq_true hc
  split at h0
  next y w t =>
    split at h0
    next q =>
      refine ps_simple (hk _ _ _ _ h0) (fun H locs lsM cells slots hw hl hs K => ?_)
      exact lv_icmp_eq hx hb hd ht (fun _ => K) (fun z => absurd q z)
    next q =>
      refine ps_simple (hk _ _ _ _ h0) (fun H locs lsM cells slots hw hl hs K => ?_)
      rw [hn] at K
      exact lv_icmp_eq hx hb hd ht (fun z => absurd z q) (fun _ => K)
  next => cases h0

theorem ps_if_icmp_ne {off : Int} (hF : ps_F p s m args meth c k X) (hk : ∀ i ls st h, kk i ls st h = some x → ps_G p l e R s m args below meth c Q X k cE sE x i ls st h) (hok : pf_ok (pd_mm k) (pd_pcs k) (pd_pc k i) (pd_pc k (i + 1)) (.if_icmp .ne off, a, b, cc, v, tg) = true) (h0 : pm_sem (.if_icmp .ne off) a b cc v tg i kk call ls st h = some x) : ps_G p l e R s m args below meth c Q X k cE sE x i ls st h := by
  obtain ⟨hx, hb, hF⟩ := hF
  obtain ⟨hd, hn, hc⟩ := ps_ok (by intro q; cases q) hok
  dsimp only [pm_sem] at h0
  have ht := of_decide_eq_true hc
  split at h0
  next y w t =>
    split at h0
    next q =>
      refine ps_simple (hk _ _ _ _ h0) (fun H locs lsM cells slots hw hl hs K => ?_)
      rw [hn] at K
      exact lv_icmp_ne hx hb hd ht (fun z => absurd q z) (fun _ => K)
    next q =>
      refine ps_simple (hk _ _ _ _ h0) (fun H locs lsM cells slots hw hl hs K => ?_)
      exact lv_icmp_ne hx hb hd ht (fun _ => K) (fun z => absurd z q)
  next => cases h0

theorem ps_if_icmp_lt {off : Int} (hF : ps_F p s m args meth c k X) (hk : ∀ i ls st h, kk i ls st h = some x → ps_G p l e R s m args below meth c Q X k cE sE x i ls st h) (hok : pf_ok (pd_mm k) (pd_pcs k) (pd_pc k i) (pd_pc k (i + 1)) (.if_icmp .lt off, a, b, cc, v, tg) = true) (h0 : pm_sem (.if_icmp .lt off) a b cc v tg i kk call ls st h = some x) : ps_G p l e R s m args below meth c Q X k cE sE x i ls st h := by
  obtain ⟨hx, hb, hF⟩ := hF
  obtain ⟨hd, hn, hc⟩ := ps_ok (by intro q; cases q) hok
  dsimp only [pm_sem] at h0
  have ht := of_decide_eq_true hc
  split at h0
  next y w t =>
    split at h0
    next q =>
      refine ps_simple (hk _ _ _ _ h0) (fun H locs lsM cells slots hw hl hs K => ?_)
      exact lv_icmp_lt hx hb hd ht (fun _ => K) (fun z => absurd q z)
    next q =>
      refine ps_simple (hk _ _ _ _ h0) (fun H locs lsM cells slots hw hl hs K => ?_)
      rw [hn] at K
      exact lv_icmp_lt hx hb hd ht (fun z => absurd z q) (fun _ => K)
  next => cases h0

theorem ps_if_icmp_ge {off : Int} (hF : ps_F p s m args meth c k X) (hk : ∀ i ls st h, kk i ls st h = some x → ps_G p l e R s m args below meth c Q X k cE sE x i ls st h) (hok : pf_ok (pd_mm k) (pd_pcs k) (pd_pc k i) (pd_pc k (i + 1)) (.if_icmp .ge off, a, b, cc, v, tg) = true) (h0 : pm_sem (.if_icmp .ge off) a b cc v tg i kk call ls st h = some x) : ps_G p l e R s m args below meth c Q X k cE sE x i ls st h := by
  obtain ⟨hx, hb, hF⟩ := hF
  obtain ⟨hd, hn, hc⟩ := ps_ok (by intro q; cases q) hok
  dsimp only [pm_sem] at h0
  have ht := of_decide_eq_true hc
  split at h0
  next y w t =>
    split at h0
    next q =>
      refine ps_simple (hk _ _ _ _ h0) (fun H locs lsM cells slots hw hl hs K => ?_)
      rw [hn] at K
      exact lv_icmp_ge hx hb hd ht (fun z => absurd q (Int32.not_lt.mpr z)) (fun _ => K)
    next q =>
      refine ps_simple (hk _ _ _ _ h0) (fun H locs lsM cells slots hw hl hs K => ?_)
      exact lv_icmp_ge hx hb hd ht (fun _ => K) (fun z => absurd (Int32.not_lt.mp q) z)
  next => cases h0

theorem ps_if_icmp_gt {off : Int} (hF : ps_F p s m args meth c k X) (hk : ∀ i ls st h, kk i ls st h = some x → ps_G p l e R s m args below meth c Q X k cE sE x i ls st h) (hok : pf_ok (pd_mm k) (pd_pcs k) (pd_pc k i) (pd_pc k (i + 1)) (.if_icmp .gt off, a, b, cc, v, tg) = true) (h0 : pm_sem (.if_icmp .gt off) a b cc v tg i kk call ls st h = some x) : ps_G p l e R s m args below meth c Q X k cE sE x i ls st h := by
  obtain ⟨hx, hb, hF⟩ := hF
  obtain ⟨hd, hn, hc⟩ := ps_ok (by intro q; cases q) hok
  dsimp only [pm_sem] at h0
  have ht := of_decide_eq_true hc
  split at h0
  next y w t =>
    split at h0
    next q =>
      refine ps_simple (hk _ _ _ _ h0) (fun H locs lsM cells slots hw hl hs K => ?_)
      exact lv_icmp_gt hx hb hd ht (fun _ => K) (fun z => absurd q z)
    next q =>
      refine ps_simple (hk _ _ _ _ h0) (fun H locs lsM cells slots hw hl hs K => ?_)
      rw [hn] at K
      exact lv_icmp_gt hx hb hd ht (fun z => absurd z q) (fun _ => K)
  next => cases h0

theorem ps_if_icmp_le {off : Int} (hF : ps_F p s m args meth c k X) (hk : ∀ i ls st h, kk i ls st h = some x → ps_G p l e R s m args below meth c Q X k cE sE x i ls st h) (hok : pf_ok (pd_mm k) (pd_pcs k) (pd_pc k i) (pd_pc k (i + 1)) (.if_icmp .le off, a, b, cc, v, tg) = true) (h0 : pm_sem (.if_icmp .le off) a b cc v tg i kk call ls st h = some x) : ps_G p l e R s m args below meth c Q X k cE sE x i ls st h := by
  obtain ⟨hx, hb, hF⟩ := hF
  obtain ⟨hd, hn, hc⟩ := ps_ok (by intro q; cases q) hok
  dsimp only [pm_sem] at h0
  have ht := of_decide_eq_true hc
  split at h0
  next y w t =>
    split at h0
    next q =>
      refine ps_simple (hk _ _ _ _ h0) (fun H locs lsM cells slots hw hl hs K => ?_)
      rw [hn] at K
      exact lv_icmp_le hx hb hd ht (fun z => absurd q (Int32.not_lt.mpr z)) (fun _ => K)
    next q =>
      refine ps_simple (hk _ _ _ _ h0) (fun H locs lsM cells slots hw hl hs K => ?_)
      exact lv_icmp_le hx hb hd ht (fun _ => K) (fun z => absurd (Int32.not_lt.mp q) z)
  next => cases h0

theorem ps_ifnull {off : Int} (hF : ps_F p s m args meth c k X) (hk : ∀ i ls st h, kk i ls st h = some x → ps_G p l e R s m args below meth c Q X k cE sE x i ls st h) (hok : pf_ok (pd_mm k) (pd_pcs k) (pd_pc k i) (pd_pc k (i + 1)) (.ifnull off, a, b, cc, v, tg) = true) (h0 : pm_sem (.ifnull off) a b cc v tg i kk call ls st h = some x) : ps_G p l e R s m args below meth c Q X k cE sE x i ls st h := by
  obtain ⟨hx, hb, hF⟩ := hF
  obtain ⟨hd, hn, hc⟩ := ps_ok (by intro q; cases q) hok
  dsimp only [pm_sem] at h0
  have ht := of_decide_eq_true hc
  split at h0
  next w t =>
    obtain ⟨g, h0⟩ := pm_go_n h0
    have h40 : w ≠ 40 := by intro z; subst z; cases g
    refine ps_simple (hk _ _ _ _ h0) (fun H locs lsM cells slots hw hl hs K => ?_)
    rw [hn] at K
    show W p l e R s m args below meth c H locs cells slots Q (F0 m _ lsM (ps_v X (.ref w) :: t.map (ps_v X)))
    rw [show ps_v X (.ref w) = .ref (ps_ad X w) from if_neg h40]
    exact lv_ifnull hx hb hd K
  next t =>
    refine ps_simple (hk _ _ _ _ h0) (fun H locs lsM cells slots hw hl hs K => ?_)
    exact lv_ifnullN hx hb hd ht K
  next => cases h0

theorem ps_ifnonnull {off : Int} (hF : ps_F p s m args meth c k X) (hk : ∀ i ls st h, kk i ls st h = some x → ps_G p l e R s m args below meth c Q X k cE sE x i ls st h) (hok : pf_ok (pd_mm k) (pd_pcs k) (pd_pc k i) (pd_pc k (i + 1)) (.ifnonnull off, a, b, cc, v, tg) = true) (h0 : pm_sem (.ifnonnull off) a b cc v tg i kk call ls st h = some x) : ps_G p l e R s m args below meth c Q X k cE sE x i ls st h := by
  obtain ⟨hx, hb, hF⟩ := hF
  obtain ⟨hd, hn, hc⟩ := ps_ok (by intro q; cases q) hok
  dsimp only [pm_sem] at h0
  have ht := of_decide_eq_true hc
  split at h0
  next w t =>
    obtain ⟨g, h0⟩ := pm_go_n h0
    have h40 : w ≠ 40 := by intro z; subst z; cases g
    refine ps_simple (hk _ _ _ _ h0) (fun H locs lsM cells slots hw hl hs K => ?_)
    show W p l e R s m args below meth c H locs cells slots Q (F0 m _ lsM (ps_v X (.ref w) :: t.map (ps_v X)))
    rw [show ps_v X (.ref w) = .ref (ps_ad X w) from if_neg h40]
    exact lv_ifnonnull hx hb hd ht K
  next t =>
    refine ps_simple (hk _ _ _ _ h0) (fun H locs lsM cells slots hw hl hs K => ?_)
    rw [hn] at K
    exact lv_ifnonnullN hx hb hd K
  next => cases h0

end
