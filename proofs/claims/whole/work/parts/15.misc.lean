/-! statics, constants of the pool, switches, ends, casts -/
section
variable {p : Program} {l : Launch} {e : Env} {R : Room} {s : State} {m : MethodId} {args : Array Value} {below : List Frame} {meth : Method} {c : Code} {Q : State → Prop} {X : ps_X} {k cE sE : Nat} {x : Option Value × pm_H} {kk : pm_K} {call : Nat → List Value → pm_H → pm_R} {a b cc : Nat} {v : Value} {tg : List Nat} {i : Nat} {ls st : List Value} {h : pm_H}
theorem pf_same_e {v w : Value} (h : pf_same v w = true) : v = w := by
  cases v <;> cases w <;> first | (cases h; done) | (simp [pf_same] at h; rw [h])
theorem pm_at_get {α : Type} (d : α) (l : List α) : ∀ {j : Nat} {y : α}, l[j]? = some y → pm_at d l j = y := by
  induction l with
  | nil => intro j y h; cases h
  | cons a t ih =>
    intro j y h
    cases j with
    | zero => exact Option.some.inj h
    | succ n => exact ih h
theorem pm_lks_e {f : Nat → pm_R} {d : Nat} {y : Int32} {z : Option Value × pm_H} {pc : Nat} {pcs : List Nat} {df : Int} (hdf : (pc : Int) + df = (pm_at 0 pcs d : Nat)) : ∀ (ps : List (Int × Int)) (tg : List Nat), ps.length = tg.length → (ps.zip tg).all (fun z => decide ((pc : Int) + z.1.2 = (pm_at 0 pcs z.2 : Nat))) = true → pm_lks f d y ps tg = some z → ∃ (j : Nat) (off : Int), Op.lookupswitch.offset ps df y.toInt = off ∧ (pc : Int) + off = (pm_at 0 pcs j : Nat) ∧ f j = some z := by
  intro ps
  induction ps with
  | nil => intro tg _ _ h; exact ⟨d, df, rfl, hdf, by cases tg <;> exact h⟩
  | cons q t ih =>
    intro tg hl ha h
    cases tg with
    | nil => cases hl
    | cons u tg =>
      simp only [List.zip_cons_cons, List.all_cons, Bool.and_eq_true, decide_eq_true_eq] at ha
      have h : (if y.toInt = q.1 then f u else pm_lks f d y t tg) = some z := h
      by_cases hq : y.toInt = q.1
      · rw [if_pos hq] at h
        exact ⟨u, q.2, (Op.lookupswitch.offset_cons q.1 q.2 t df y.toInt).trans (if_pos hq.symm), ha.1, h⟩
      · rw [if_neg hq] at h
        obtain ⟨j, off, e1, e2, e3⟩ := ih tg (by simpa using hl) ha.2 h
        exact ⟨j, off, (Op.lookupswitch.offset_cons q.1 q.2 t df y.toInt).trans ((if_neg (fun z => hq z.symm)).trans e1), e2, e3⟩
/-- with what a method ends -/
def ps_rt (M : pd_M) (ins : Jvm.ClassFile.Instr) (r : Option Value) : Prop :=
  (ins = .ireturn ∧ ∃ (cc : Nat) (z : Int32), r = some (.int z) ∧ pf_rc cc M.2.2.2.1 = true ∧ pm_okz cc z = true) ∨ (ins = .lreturn ∧ ∃ z, r = some (.long z) ∧ M.2.2.2.1 = some .long) ∨ (ins = .areturn ∧ ∃ z, r = some (.ref z) ∧ z ≠ 40 ∧ M.2.2.2.1 = some (.object "java/lang/String")) ∨ (ins = .return_ ∧ r = none ∧ M.2.2.2.1 = none)
def ps_Q (p : Program) (l : Launch) (e : Env) (R : Room) (s : State) (m : MethodId) (args : Array Value) (below : List Frame) (meth : Method) (c : Code) (Q : State → Prop) (X : ps_X) (k cE sE : Nat) (x : Option Value × pm_H) : Prop :=
  ∀ (pc : Nat) (ins : Jvm.ClassFile.Instr) (H : Heap) (locs : List Loc) (lsM : Array Slot), decode (pd_mm k).2.1 pc = .ok (ins, 1) → ps_rt (pd_mm k) ins x.1 → ps_W X x.2 H → va_S (ps_A X) s.heap H locs → W p l e R s m args below meth c H locs cE sE Q (F0 m pc lsM ((pm_ret x.1 []).map (ps_v X)))
theorem ps_getstatic {n : Nat} (hF : ps_F p s m args meth c k X) (hk : ∀ i ls st h, kk i ls st h = some x → ps_G p l e R s m args below meth c Q X k cE sE x i ls st h) (hok : pf_ok (pd_mm k) (pd_pcs k) (pd_pc k i) (pd_pc k (i + 1)) (.getstatic n, a, b, cc, v, tg) = true) (h0 : pm_sem (.getstatic n) a b cc v tg i kk call ls st h = some x) : ps_G p l e R s m args below meth c Q X k cE sE x i ls st h := by
  obtain ⟨hx, hb, hF⟩ := hF
  obtain ⟨hd, hn, hc⟩ := ps_ok (by intro q; cases q) hok
  dsimp only [pm_sem] at h0
  obtain ⟨hml, hown, hret, hnm, hts, hE, -⟩ := hF
  have hc : (Nat.ble (a + 1) pd_nS && (pf_same v (pd_vv a) && decide (pd_pw (pm_at 0 tg 0) = .fieldLink (pd_mm k).1.cls n (pd_sv a).1 (pd_sv a).2.1 (pd_sv a).2.2))) = true := hc
  simp only [Bool.and_eq_true] at hc
  have ha : a < pd_nS := Nat.le_of_ble_eq_true hc.1
  have hv := pf_same_e hc.2.1
  have hp := of_decide_eq_true hc.2.2
  subst hv
  refine ps_simple (hk _ _ _ _ h0) (fun H locs lsM cells slots hw hl hs K => ?_)
  rw [hn] at K
  exact va_gets hx hb (hE.2.2.2.2.1 a ha) hs hown (hts _ (pf_good (pf_pw_in hp (fun z => by cases z)) rfl)) (fun x h => h) hd K

theorem ps_ldc_w {n : Nat} (hF : ps_F p s m args meth c k X) (hk : ∀ i ls st h, kk i ls st h = some x → ps_G p l e R s m args below meth c Q X k cE sE x i ls st h) (hok : pf_ok (pd_mm k) (pd_pcs k) (pd_pc k i) (pd_pc k (i + 1)) (.ldc_w n, a, b, cc, v, tg) = true) (h0 : pm_sem (.ldc_w n) a b cc v tg i kk call ls st h = some x) : ps_G p l e R s m args below meth c Q X k cE sE x i ls st h := by
  obtain ⟨hx, hb, hF⟩ := hF
  obtain ⟨hd, hn, hc⟩ := ps_ok (by intro q; cases q) hok
  dsimp only [pm_sem] at h0
  obtain ⟨hml, hown, hret, hnm, hts, hE, -⟩ := hF
  obtain ⟨y, rfl, hp⟩ : ∃ y : Int32, v = .int y ∧ pd_pw (pm_at 0 tg 0) = .constant (pd_mm k).1.cls n y := by
    cases v <;> first | exact ⟨_, rfl, of_decide_eq_true hc⟩ | cases hc
  refine ps_simple (hk _ _ _ _ h0) (fun H locs lsM cells slots hw hl hs K => ?_)
  rw [hn] at K
  exact lv_ldcw hx hb hown (hts _ (pf_good (pf_pw_in hp (fun z => by cases z)) rfl)) hd K

theorem ps_ldc2_w {n : Nat} (hF : ps_F p s m args meth c k X) (hk : ∀ i ls st h, kk i ls st h = some x → ps_G p l e R s m args below meth c Q X k cE sE x i ls st h) (hok : pf_ok (pd_mm k) (pd_pcs k) (pd_pc k i) (pd_pc k (i + 1)) (.ldc2_w n, a, b, cc, v, tg) = true) (h0 : pm_sem (.ldc2_w n) a b cc v tg i kk call ls st h = some x) : ps_G p l e R s m args below meth c Q X k cE sE x i ls st h := by
  obtain ⟨hx, hb, hF⟩ := hF
  obtain ⟨hd, hn, hc⟩ := ps_ok (by intro q; cases q) hok
  dsimp only [pm_sem] at h0
  obtain ⟨hml, hown, hret, hnm, hts, hE, -⟩ := hF
  obtain ⟨y, rfl, hp⟩ : ∃ y : Int64, v = .long y ∧ pd_pw (pm_at 0 tg 0) = .constantLong (pd_mm k).1.cls n y := by
    cases v <;> first | exact ⟨_, rfl, of_decide_eq_true hc⟩ | cases hc
  refine ps_simple (hk _ _ _ _ h0) (fun H locs lsM cells slots hw hl hs K => ?_)
  rw [hn] at K
  exact lv_ldc2 hx hb hown (hts _ (pf_good (pf_pw_in hp (fun z => by cases z)) rfl)) hd K

theorem ps_ldc {n : Nat} (hF : ps_F p s m args meth c k X) (hk : ∀ i ls st h, kk i ls st h = some x → ps_G p l e R s m args below meth c Q X k cE sE x i ls st h) (hok : pf_ok (pd_mm k) (pd_pcs k) (pd_pc k i) (pd_pc k (i + 1)) (.ldc n, a, b, cc, v, tg) = true) (h0 : pm_sem (.ldc n) a b cc v tg i kk call ls st h = some x) : ps_G p l e R s m args below meth c Q X k cE sE x i ls st h := by
  obtain ⟨hx, hb, hF⟩ := hF
  obtain ⟨hd, hn, hc⟩ := ps_ok (by intro q; cases q) hok
  dsimp only [pm_sem] at h0
  obtain ⟨hml, hown, hret, hnm, hts, hE, -⟩ := hF
  match cc, hc with
  | 0, hc =>
    obtain ⟨y, rfl, hp⟩ : ∃ y : Int32, v = .int y ∧ pd_pw (pm_at 0 tg 0) = .constant (pd_mm k).1.cls n y := by
      cases v <;> first | exact ⟨_, rfl, of_decide_eq_true hc⟩ | cases hc
    refine ps_simple (hk _ _ _ _ h0) (fun H locs lsM cells slots hw hl hs K => ?_)
    rw [hn] at K
    exact lv_ldc hx hb hown (hts _ (pf_good (pf_pw_in hp (fun z => by cases z)) rfl)) hd K
  | cc + 1, hc =>
    have hc : (pf_vr v (8 + a) && (Nat.ble (a + 1) pd_nJ && (decide ((pd_str a).1 = (pd_mm k).1.cls) && Nat.beq (pd_str a).2.1 n))) = true := hc
    simp only [Bool.and_eq_true] at hc
    have ha : a < pd_nJ := Nat.le_of_ble_eq_true hc.2.1
    have ha2 : a < 16 := Nat.lt_of_lt_of_le ha (by decide)
    have h1 := of_decide_eq_true hc.2.2.1
    have h2 : (pd_str a).2.1 = n := Nat.eq_of_beq_eq_true hc.2.2.2
    have hv : v = .ref (8 + a) := by
      have := hc.1
      cases v <;> first | (cases this; done) | (rw [show _ = 8 + a from Nat.eq_of_beq_eq_true this])
    subst hv
    refine ps_simple (hk _ _ _ _ h0) (fun H locs lsM cells slots hw hl hs K => ?_)
    rw [hn] at K
    have K : W p l e R s m args below meth c H locs cells slots Q (F0 m _ lsM (ps_v X (.ref (8 + a)) :: st.map (ps_v X))) := K
    have h40 : ¬ (8 + a = 40) := by omega
    rw [show ps_v X (.ref (8 + a)) = .ref (ps_ad X (8 + a)) from if_neg h40, ps_ad_ro (show 8 + a < pm_NR by show 8 + a < 48; omega)] at K
    have hz := hE.2.2.2.1 a ha
    rw [h1, h2] at hz
    exact va_ldcS hx hb hown hz hd K

theorem ps_tableswitch {d lo hi : Int} {offs : Array Int} (hF : ps_F p s m args meth c k X) (hk : ∀ i ls st h, kk i ls st h = some x → ps_G p l e R s m args below meth c Q X k cE sE x i ls st h) (hok : pf_ok (pd_mm k) (pd_pcs k) (pd_pc k i) (pd_pc k (i + 1)) (.tableswitch d lo hi offs, a, b, cc, v, tg) = true) (h0 : pm_sem (.tableswitch d lo hi offs) a b cc v tg i kk call ls st h = some x) : ps_G p l e R s m args below meth c Q X k cE sE x i ls st h := by
  obtain ⟨hx, hb, hF⟩ := hF
  obtain ⟨hd, hn, hc⟩ := ps_ok (by intro q; cases q) hok
  dsimp only [pm_sem] at h0
  have hc : (decide ((pd_pc k i : Int) + d = (pm_at 0 (pd_pcs k) a : Nat)) && (decide (offs.toList.length = tg.length) && (decide ((tg.length : Int) = hi - lo + 1) && (offs.toList.zip tg).all (fun z => decide ((pd_pc k i : Int) + z.1 = (pm_at 0 (pd_pcs k) z.2 : Nat)))))) = true := hc
  simp only [Bool.and_eq_true, decide_eq_true_eq] at hc
  obtain ⟨c1, c2, c3, c4⟩ := hc
  split at h0
  next y t =>
    split at h0
    next q =>
      refine ps_simple (hk _ _ _ _ h0) (fun H locs lsM cells slots hw hl hs K => ?_)
      exact lv_tableOut hx hb hd q c1 K
    next q =>
      have q1 : ¬ y.toInt < lo := fun z => q (Or.inl z)
      have q2 : ¬ hi < y.toInt := fun z => q (Or.inr z)
      have hj : (y.toInt - lo).toNat < tg.length := by omega
      have hj2 : (y.toInt - lo).toNat < offs.toList.length := by omega
      obtain ⟨u, hu⟩ : ∃ u, tg[(y.toInt - lo).toNat]? = some u := ⟨_, List.getElem?_eq_getElem hj⟩
      obtain ⟨off, ho⟩ : ∃ off, offs.toList[(y.toInt - lo).toNat]? = some off := ⟨_, List.getElem?_eq_getElem hj2⟩
      have hz : (offs.toList.zip tg)[(y.toInt - lo).toNat]? = some (off, u) := List.getElem?_zip_eq_some.mpr ⟨ho, hu⟩
      have ht := of_decide_eq_true (List.all_eq_true.mp c4 _ (List.mem_of_getElem? hz))
      rw [pm_at_get 0 tg hu] at h0
      refine ps_simple (hk _ _ _ _ h0) (fun H locs lsM cells slots hw hl hs K => ?_)
      exact lv_tableIn hx hb hd q1 q2 (by rw [← Array.getElem?_toList]; exact ho) ht K
  next => cases h0

theorem ps_lookupswitch {d : Int} {ps : Array (Int × Int)} (hF : ps_F p s m args meth c k X) (hk : ∀ i ls st h, kk i ls st h = some x → ps_G p l e R s m args below meth c Q X k cE sE x i ls st h) (hok : pf_ok (pd_mm k) (pd_pcs k) (pd_pc k i) (pd_pc k (i + 1)) (.lookupswitch d ps, a, b, cc, v, tg) = true) (h0 : pm_sem (.lookupswitch d ps) a b cc v tg i kk call ls st h = some x) : ps_G p l e R s m args below meth c Q X k cE sE x i ls st h := by
  obtain ⟨hx, hb, hF⟩ := hF
  obtain ⟨hd, hn, hc⟩ := ps_ok (by intro q; cases q) hok
  dsimp only [pm_sem] at h0
  have hc : (decide ((pd_pc k i : Int) + d = (pm_at 0 (pd_pcs k) a : Nat)) && (decide (ps.toList.length = tg.length) && ((ps.toList.zip (ps.toList.drop 1)).all (fun (a, next) => a.1 < next.1) && (ps.toList.zip tg).all (fun z => decide ((pd_pc k i : Int) + z.1.2 = (pm_at 0 (pd_pcs k) z.2 : Nat)))))) = true := hc
  simp only [Bool.and_eq_true] at hc
  obtain ⟨c1, c2, c3, c4⟩ := hc
  split at h0
  next y t =>
    obtain ⟨j, off, g1, g2, g3⟩ := pm_lks_e (f := fun j => kk j ls t h) (of_decide_eq_true c1) ps.toList tg (of_decide_eq_true c2) c4 h0
    refine ps_simple (hk _ _ _ _ g3) (fun H locs lsM cells slots hw hl hs K => ?_)
    exact lv_lookup hx hb hd c3 g1 g2 K
  next => cases h0

theorem ps_ireturn (hF : ps_F p s m args meth c k X) (hQ : ps_Q p l e R s m args below meth c Q X k cE sE x) (hok : pf_ok (pd_mm k) (pd_pcs k) (pd_pc k i) (pd_pc k (i + 1)) (.ireturn, a, b, cc, v, tg) = true) (h0 : pm_sem (.ireturn) a b cc v tg i kk call ls st h = some x) : ps_G p l e R s m args below meth c Q X k cE sE x i ls st h := by
  obtain ⟨hx, hb, hF⟩ := hF
  obtain ⟨hd, hn, hc⟩ := ps_ok (by intro q; cases q) hok
  dsimp only [pm_sem] at h0
  split at h0
  next z =>
    obtain ⟨g, h0⟩ := pm_go_n h0
    cases h0
    refine ⟨⟨Nat.le_refl _, Nat.le_refl _⟩, fun H locs lsM cells slots q1 q2 hw hl hs => ?_⟩
    obtain rfl : cells = cE := by rw [← q1]; exact (by show cells = cells + (h.1.1 - h.1.1); omega)
    obtain rfl : slots = sE := by rw [← q2]; exact (by show slots = slots + (h.1.2.1 - h.1.2.1); omega)
    exact hQ _ _ H locs lsM hd (Or.inl ⟨rfl, cc, z, rfl, hc, g⟩) hw hs
  next => cases h0

theorem ps_lreturn (hF : ps_F p s m args meth c k X) (hQ : ps_Q p l e R s m args below meth c Q X k cE sE x) (hok : pf_ok (pd_mm k) (pd_pcs k) (pd_pc k i) (pd_pc k (i + 1)) (.lreturn, a, b, cc, v, tg) = true) (h0 : pm_sem (.lreturn) a b cc v tg i kk call ls st h = some x) : ps_G p l e R s m args below meth c Q X k cE sE x i ls st h := by
  obtain ⟨hx, hb, hF⟩ := hF
  obtain ⟨hd, hn, hc⟩ := ps_ok (by intro q; cases q) hok
  dsimp only [pm_sem] at h0
  split at h0
  next z =>
    cases h0
    refine ⟨⟨Nat.le_refl _, Nat.le_refl _⟩, fun H locs lsM cells slots q1 q2 hw hl hs => ?_⟩
    obtain rfl : cells = cE := by rw [← q1]; exact (by show cells = cells + (h.1.1 - h.1.1); omega)
    obtain rfl : slots = sE := by rw [← q2]; exact (by show slots = slots + (h.1.2.1 - h.1.2.1); omega)
    exact hQ _ _ H locs lsM hd (Or.inr (Or.inl ⟨rfl, z, rfl, of_decide_eq_true hc⟩)) hw hs
  next => cases h0

theorem ps_areturn (hF : ps_F p s m args meth c k X) (hQ : ps_Q p l e R s m args below meth c Q X k cE sE x) (hok : pf_ok (pd_mm k) (pd_pcs k) (pd_pc k i) (pd_pc k (i + 1)) (.areturn, a, b, cc, v, tg) = true) (h0 : pm_sem (.areturn) a b cc v tg i kk call ls st h = some x) : ps_G p l e R s m args below meth c Q X k cE sE x i ls st h := by
  obtain ⟨hx, hb, hF⟩ := hF
  obtain ⟨hd, hn, hc⟩ := ps_ok (by intro q; cases q) hok
  dsimp only [pm_sem] at h0
  split at h0
  next z =>
    obtain ⟨g, h0⟩ := pm_go_n h0
    cases h0
    refine ⟨⟨Nat.le_refl _, Nat.le_refl _⟩, fun H locs lsM cells slots q1 q2 hw hl hs => ?_⟩
    obtain rfl : cells = cE := by rw [← q1]; exact (by show cells = cells + (h.1.1 - h.1.1); omega)
    obtain rfl : slots = sE := by rw [← q2]; exact (by show slots = slots + (h.1.2.1 - h.1.2.1); omega)
    exact hQ _ _ H locs lsM hd (Or.inr (Or.inr (Or.inl ⟨rfl, z, rfl, (fun q => by rw [q] at g; cases g), of_decide_eq_true hc⟩))) hw hs
  next => cases h0

theorem ps_return (hF : ps_F p s m args meth c k X) (hQ : ps_Q p l e R s m args below meth c Q X k cE sE x) (hok : pf_ok (pd_mm k) (pd_pcs k) (pd_pc k i) (pd_pc k (i + 1)) (.return_, a, b, cc, v, tg) = true) (h0 : pm_sem (.return_) a b cc v tg i kk call ls st h = some x) : ps_G p l e R s m args below meth c Q X k cE sE x i ls st h := by
  obtain ⟨hx, hb, hF⟩ := hF
  obtain ⟨hd, hn, hc⟩ := ps_ok (by intro q; cases q) hok
  dsimp only [pm_sem] at h0
  split at h0
  next =>
    cases h0
    refine ⟨⟨Nat.le_refl _, Nat.le_refl _⟩, fun H locs lsM cells slots q1 q2 hw hl hs => ?_⟩
    obtain rfl : cells = cE := by rw [← q1]; exact (by show cells = cells + (h.1.1 - h.1.1); omega)
    obtain rfl : slots = sE := by rw [← q2]; exact (by show slots = slots + (h.1.2.1 - h.1.2.1); omega)
    exact hQ _ _ H locs lsM hd (Or.inr (Or.inr (Or.inr ⟨rfl, rfl, of_decide_eq_true hc⟩))) hw hs
  next => cases h0

theorem pf_oc : Cond.code objectInit ⟨#[0xb1]⟩ 1 none ∈ lw_tbl := pf_seg1 _ (List.mem_of_getElem? (i := 27) rfl)
theorem pf_oi : Cond.instanceMethod objectInit ∈ lw_tbl := pf_seg1 _ (List.mem_of_getElem? (i := 26) rfl)
theorem pm_cat_e {X : ps_X} (hn : X.2.2.1 = .null ∨ ∃ t, X.2.2.1 = .ref t) (t : List Value) : ((t.map (ps_v X)).map fun v => v.category).sum = pm_cat t := by
  induction t with
  | nil => rfl
  | cons v t ih =>
    rw [List.map_cons, List.map_cons, List.sum_cons, ih, ps_v_cat hn]
    cases v <;> rfl
theorem ps_objInit {n : Nat} (hR : 1 ≤ R.frames ∧ 100 ≤ R.locals) (hF : ps_F p s m args meth c k X) (hk : ∀ i ls st h, kk i ls st h = some x → ps_G p l e R s m args below meth c Q X k cE sE x i ls st h) (hok : pf_ok (pd_mm k) (pd_pcs k) (pd_pc k i) (pd_pc k (i + 1)) (.invokespecial n, a, b, 7, v, tg) = true) (h0 : pm_sem (.invokespecial n) a b 7 v tg i kk call ls st h = some x) : ps_G p l e R s m args below meth c Q X k cE sE x i ls st h := by
  obtain ⟨hx, hb, hml, hown, hret, hnm, hts, hE, -⟩ := hF
  obtain ⟨hd, hn, hc⟩ := ps_ok (by intro q; cases q) hok
  have hp : pd_pw (pm_at 0 tg 1) = .methodLink (pd_mm k).1.cls n objectInit := of_decide_eq_true hc
  have hnv := hE.2.2.2.2.2.2.2.1
  replace h0 : (match (generalizing := false) st with
      | .ref r :: t => pm_go (Nat.ble (pm_cat t) 8 && !(Nat.beq r 40)) (kk (i + 1) ls t h) none
      | _ => none) = some x := h0
  split at h0
  next w t =>
    obtain ⟨g, h0⟩ := pm_go_n h0
    have h8 : pm_cat t ≤ 8 := Nat.le_of_ble_eq_true (by first | exact g | (rw [Bool.and_eq_true] at g; exact g.1))
    have h40 : w ≠ 40 := fun q => by rw [q] at g; simp at g
    refine ps_simple (hk _ _ _ _ h0) (fun H locs lsM cells slots hw hl hs K => ?_)
    rw [hn] at K
    show W p l e R s m args below meth c H locs cells slots Q (F0 m _ lsM (ps_v X (.ref w) :: t.map (ps_v X)))
    rw [show ps_v X (.ref w) = .ref (ps_ad X w) from if_neg h40]
    obtain ⟨lv, hl1, -⟩ := hl
    refine W.objInit hx hb hown (hts _ (pf_good (pf_pw_in hp (fun z => by cases z)) rfl)) (hts _ (pf_good pf_oi rfl)) (hts _ (pf_good pf_oc rfl)) rfl (by rw [hml]; exact hl1.1) rfl hd hR.1 ?_ K
    show 2 * 0 + ((t.map (ps_v X)).map fun v => v.category).sum + 12 ≤ R.locals
    rw [pm_cat_e hnv]
    have := hR.2
    omega
  next => cases h0
theorem ps_checkcast {n : Nat} (hF : ps_F p s m args meth c k X) (hk : ∀ i ls st h, kk i ls st h = some x → ps_G p l e R s m args below meth c Q X k cE sE x i ls st h) (hok : pf_ok (pd_mm k) (pd_pcs k) (pd_pc k i) (pd_pc k (i + 1)) (.checkcast n, a, b, cc, v, tg) = true) (h0 : pm_sem (.checkcast n) a b cc v tg i kk call ls st h = some x) : ps_G p l e R s m args below meth c Q X k cE sE x i ls st h := by
  obtain ⟨hx, hb, hF⟩ := hF
  obtain ⟨hd, hn, hc⟩ := ps_ok (by intro q; cases q) hok
  dsimp only [pm_sem] at h0
  obtain ⟨hml, hown, hret, hnm, hts, hE, -⟩ := hF
  have hp : pd_pw (pm_at 0 tg 0) = .classLink (pd_mm k).1.cls n "[I" := of_decide_eq_true hc
  split at h0
  next w t =>
    obtain ⟨g, h0⟩ := pm_go_n h0
    rw [Bool.and_eq_true] at g
    have hq := pm_is_e g.1
    have hr : pm_NR ≤ w := Nat.le_of_ble_eq_true g.2
    refine ps_simple (hk _ _ _ _ h0) (fun H locs lsM cells slots hw hl hs K => ?_)
    rw [hn] at K
    have K : W p l e R s m args below meth c H locs cells slots Q (F0 m _ lsM (ps_v X (.ref w) :: t.map (ps_v X))) := K
    show W p l e R s m args below meth c H locs cells slots Q (F0 m _ lsM (ps_v X (.ref w) :: t.map (ps_v X)))
    rw [ps_vref hE hw (by rw [hq.1]; decide)] at K ⊢
    have ha := ps_arr hw hr hq.1
    rw [hq.2] at ha
    exact va_castA hx hb hown (hts _ (pf_good (pf_pw_in hp (fun z => by cases z)) rfl)) hw.2.2.1 (w - pm_NR) ha (hE.1.2 0 _ rfl).2 hd K
  next => cases h0

end
