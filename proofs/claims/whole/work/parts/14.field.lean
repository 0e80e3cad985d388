/-! fields, statics, constants of the pool, switches -/
theorem pf_l : ∀ c, c < pd_nC → ∀ w ∈ u_ws (pd_R c) (pd_T c) (pd_N c), w ∈ lw_tbl := fun c hc => match c, hc with
  | 0, _ => pf_l_0
  | 1, _ => pf_l_1
  | 2, _ => pf_l_2
  | 3, _ => pf_l_3
  | 4, _ => pf_l_4
  | 5, _ => pf_l_5
  | 6, _ => pf_l_6
  | 7, _ => pf_l_7
  | 8, _ => pf_l_8
  | 9, _ => pf_l_9
  | 10, _ => pf_l_10
  | 11, _ => pf_l_11
  | 12, _ => pf_l_12
  | c + 13, hc => absurd hc (by show ¬ (c + 13 < 13); omega)
theorem pf_lays : ∀ c, c < pd_nC → ∀ w ∈ u_ws (pd_R c) (pd_T c) (pd_N c), w ∈ pf_ws := fun c hc w hw => by
  refine List.mem_filter.mpr ⟨pf_l c hc w hw, ?_⟩
  obtain ⟨k, -, rfl⟩ := List.mem_map.mp hw
  unfold u_lay
  split <;> rfl
theorem pf_fty : ∀ c, c < pd_nC → ∀ k, k < pd_N c → parseFieldDescriptor (pd_T c k).2.2.1 = some (pd_Y c k) := by decide +kernel
theorem pf_fnm : ∀ c, c < pd_nC → ∀ a, a < pd_N c → ∀ b, b < pd_N c → a ≠ b → (pd_T c a).2.1 ≠ (pd_T c b).2.1 := by decide +kernel
theorem pf_inst : ∀ c, c < pd_nC → Cond.instantiable (pd_R c) (pd_N c) ∈ pd_is := by decide +kernel
theorem pf_init : ∀ c, c < pd_nC → Cond.initialized (pd_R c) ∈ pd_in := by decide +kernel
theorem pf_pw_in {j : Nat} {w : Cond} (h : pd_pw j = w) (hne : w ≠ .tt) : w ∈ lw_tbl := by
  subst h
  unfold pd_pw at hne ⊢
  rcases pf_at (.tt : Cond) (pm_at [] pd_pools (j / 40)) (j % 40) with h1 | h1
  · rcases pf_at ([] : List Cond) pd_pools (j / 40) with h2 | h2
    · exact pf_pools _ h2 _ h1
    · rw [h2] at h1; cases h1
  · exact absurd h1 hne
theorem pf_good {w : Cond} (h : w ∈ lw_tbl) (hg : goodWord w = true) : w ∈ pf_ws := List.mem_filter.mpr ⟨h, hg⟩
section
variable {p : Program} {l : Launch} {e : Env} {R : Room} {s : State} {m : MethodId} {args : Array Value} {below : List Frame} {meth : Method} {c : Code} {Q : State → Prop} {X : ps_X} {k cE sE : Nat} {x : Option Value × pm_H} {kk : pm_K} {call : Nat → List Value → pm_H → pm_R} {a b cc : Nat} {v : Value} {tg : List Nat} {i : Nat} {ls st : List Value} {h : pm_H}
theorem ps_tc3 (t : FieldType) : pf_tc t = 0 ∨ pf_tc t = 1 ∨ pf_tc t = 2 ∨ pf_tc t = 3 := by
  cases t <;> simp [pf_tc]
/-- reading a field: any own cell -/
theorem ps_fget {H : Heap} {locs : List Loc} {lsM : Array Slot} {cells slots : Nat} {own : String} {idx w pc : Nat} {rest : List Value} (hx : p.tables.exec = Jvm.exec) (hb : c.code = (pd_mm k).2.1) (hown : s.vm.findClass own = some m.cls) (hts : ∀ w ∈ pf_ws, w.before args s = true) (hE : ps_Env X s s.heap) (hw : ps_W X h H) (hka : (pm_kd h w).1 = 1) (hkb : (pm_kd h w).2.1 = a) (ha : a < pd_nC) (hbN : b < pd_N a) (hT : (pd_T a b).1 = pd_R a) {j nest : Nat} (hp : pf_eqf (pd_pw j) own idx (pd_R a) (pd_T a b).2.1 (pd_T a b).2.2.1 nest = true) (hd : decode (pd_mm k).2.1 pc = .ok (.getfield idx, 3))
    (K : W p l e R s m args below meth c H locs cells slots Q (F0 m (pc + 3) lsM (ps_fv X h w a b :: rest))) : W p l e R s m args below meth c H locs cells slots Q (F0 m pc lsM (.ref (ps_ad X w) :: rest)) := by
  have hr := ps_ro1 hE hw hka
  have he : (ps_ws X h)[w - pm_NR]? = some (ps_ad X w, .inr (a, ps_fs X h w a)) := by
    rw [← hkb, ← ps_E_obj hka]
    exact ps_ws_at hr (hw.lt (by rw [hka]; decide))
  have hsame : ∀ x, s.fieldFound? (pd_T a b).1 (pd_T a b).2.1 (pd_T a b).2.2.1 = some x → s.fieldFound? (pd_R a) (pd_T a b).2.1 (pd_T a b).2.2.1 = some x := fun x h1 => by rw [← hT]; exact h1
  cases nest with
  | zero =>
    have e := of_decide_eq_true hp
    exact va_get hx hb hts (pf_lays a ha) hown hE.1 hw.2.2.1 (w - pm_NR) he (ps_cl ha) b hbN (hts _ (pf_good (pf_pw_in e (fun z => by cases z)) rfl)) hsame (ps_fs_at hbN) hd K
  | succ n =>
    have e := of_decide_eq_true hp
    exact va_getN hx hb hts (pf_lays a ha) hown hE.1 hw.2.2.1 (w - pm_NR) he (ps_cl ha) b hbN (va_Nw.use rfl (hE.2.2.2.2.2.1 _ (pf_pw_in e (fun z => by cases z)) rfl)) hsame (ps_fs_at hbN) hd K
theorem ps_getfield {n : Nat} (ha : a ≠ 1000) (hF : ps_F p s m args meth c k X) (hk : ∀ i ls st h, kk i ls st h = some x → ps_G p l e R s m args below meth c Q X k cE sE x i ls st h) (hok : pf_ok (pd_mm k) (pd_pcs k) (pd_pc k i) (pd_pc k (i + 1)) (.getfield n, a, b, cc, v, tg) = true) (h0 : pm_sem (.getfield n) a b cc v tg i kk call ls st h = some x) : ps_G p l e R s m args below meth c Q X k cE sE x i ls st h := by
  obtain ⟨hx, hb, hml, hown, hret, hnm, hts, hE, -⟩ := hF
  obtain ⟨hd, hn, hc⟩ := ps_ok (by intro q; cases q) hok
  have hc : (Nat.ble (a + 1) pd_nC && (Nat.ble (b + 1) (pd_N a) && (Nat.beq cc (pf_tc (pd_Y a b)) && (decide ((pd_T a b).1 = pd_R a) && pf_eqf (pd_pw (pm_at 0 tg 0)) (pd_mm k).1.cls n (pd_R a) (pd_T a b).2.1 (pd_T a b).2.2.1 (pm_at 0 tg 1))))) = true := by
    dsimp only [pf_chk] at hc
    split at hc
    · exact absurd rfl ha
    · exact hc
  simp only [Bool.and_eq_true] at hc
  have ha1 : a < pd_nC := Nat.le_of_ble_eq_true hc.1
  have hb1 : b < pd_N a := Nat.le_of_ble_eq_true hc.2.1
  have hcc : cc = pf_tc (pd_Y a b) := Nat.eq_of_beq_eq_true hc.2.2.1
  have hT := of_decide_eq_true hc.2.2.2.1
  have hp := hc.2.2.2.2
  dsimp only [pm_sem] at h0
  split at h0
  next w t =>
    obtain ⟨g, h0⟩ := pm_go_n h0
    have g : pm_is (pm_kd h w) 1 a = true := by simpa [pm_rc, ha] using g
    have hq := pm_is_e g
    have key : ∀ z : Value, ps_v X z = ps_fv X h w a b → kk (i + 1) ls (z :: t) h = some x → ps_G p l e R s m args below meth c Q X k cE sE x i ls (.ref w :: t) h := by
      intro z hz h1
      refine ps_simple (hk _ _ _ _ h1) (fun H locs lsM cells slots hw hl hs K => ?_)
      rw [hn] at K
      have K : W p l e R s m args below meth c H locs cells slots Q (F0 m _ lsM (ps_v X z :: t.map (ps_v X))) := K
      rw [hz] at K
      show W p l e R s m args below meth c H locs cells slots Q (F0 m _ lsM (ps_v X (.ref w) :: t.map (ps_v X)))
      rw [ps_vref hE hw (by rw [hq.1]; decide)]
      exact ps_fget hx hb hown hts hE hw hq.1 hq.2 ha1 hb1 hT hp hd K
    rcases ps_tc3 (pd_Y a b) with e | e | e | e <;> rw [e] at hcc <;> subst hcc
    · exact key _ (by unfold ps_fv; rw [e]; rfl) h0
    · exact key _ (by unfold ps_fv; rw [e]; rfl) h0
    · exact key _ (by unfold ps_fv; rw [e]; rfl) h0
    · rcases pm_ldr_e h0 with ⟨e1, e2⟩ | ⟨q, e1, e2, e3⟩
      · exact key _ (by unfold ps_fv; rw [e]; exact ps_ldv (Or.inl ⟨e1, rfl⟩)) e2
      · exact key _ (by unfold ps_fv; rw [e]; exact ps_ldv (Or.inr ⟨q, e1, e2, rfl⟩)) e3
  next => cases h0
theorem ps_getfieldS {n : Nat} (hF : ps_F p s m args meth c k X) (hk : ∀ i ls st h, kk i ls st h = some x → ps_G p l e R s m args below meth c Q X k cE sE x i ls st h) (hok : pf_ok (pd_mm k) (pd_pcs k) (pd_pc k i) (pd_pc k (i + 1)) (.getfield n, 1000, b, cc, v, tg) = true) (h0 : pm_sem (.getfield n) 1000 b cc v tg i kk call ls st h = some x) : ps_G p l e R s m args below meth c Q X k cE sE x i ls st h := by
  obtain ⟨hx, hb, hml, hown, hret, hnm, hts, hE, -⟩ := hF
  obtain ⟨hd, hn, hc⟩ := ps_ok (by intro q; cases q) hok
  dsimp only [pm_sem] at h0
  split at h0
  next w t =>
    obtain ⟨g, h0⟩ := pm_go_n h0
    have hq : (pm_kd h w).1 = 3 := Nat.eq_of_beq_eq_true (by simpa [pm_rc] using g)
    have ro : ∀ H, ps_W X h H → w < pm_NR := by
      intro H hw
      apply Nat.not_le.mp
      intro hr
      rcases hw.2.2.2.1 w hr (hw.lt (by rw [hq]; decide)) with ⟨z, -⟩ | ⟨z, -⟩ <;> rw [z] at hq <;> cases hq
    match b, hc with
    | 0, hc =>
      have hc : (Nat.beq cc 3 && decide (pd_pw (pm_at 0 tg 0) = .fieldLink (pd_mm k).1.cls n "java/lang/String" "value" "[B")) = true := hc
      rw [Bool.and_eq_true] at hc
      have hcc : cc = 3 := Nat.eq_of_beq_eq_true hc.1
      have ew := of_decide_eq_true hc.2
      subst hcc
      have key : ∀ z : Value, ps_v X z = va_rf ((h.2.2.2 w 0).map (ps_ad X)) → kk (i + 1) ls (z :: t) h = some x → ps_G p l e R s m args below meth c Q X k cE sE x i ls (.ref w :: t) h := by
        intro z hz h1
        refine ps_simple (hk _ _ _ _ h1) (fun H locs lsM cells slots hw hl hs K => ?_)
        rw [hn] at K
        have K : W p l e R s m args below meth c H locs cells slots Q (F0 m _ lsM (ps_v X z :: t.map (ps_v X))) := K
        have hr := ro H hw
        obtain ⟨e1, e2, e3⟩ := hw.2.2.2.2.2 w hr
        obtain ⟨c1, c2, q, c3, c4, c5⟩ := hE.2.2.1 w hr (by rw [← e1]; exact hq)
        rw [hz, e3, c3] at K
        have K : W p l e R s m args below meth c H locs cells slots Q (F0 m _ lsM (.ref (ps_ad X q) :: t.map (ps_v X))) := K
        rw [ps_ad_ro c4] at K
        show W p l e R s m args below meth c H locs cells slots Q (F0 m _ lsM (ps_v X (.ref w) :: t.map (ps_v X)))
        rw [ps_vref hE hw (by rw [hq]; decide), ps_ad_ro hr]
        exact vk_getf hx hb c5 hs hown (hts _ (pf_good (pf_pw_in ew (fun z => by cases z)) rfl)) (fun x h1 => h1) hd K
      rcases pm_ldr_e h0 with ⟨e1, e2⟩ | ⟨q, e1, e2, e3⟩
      · exact key _ (ps_ldv (Or.inl ⟨e1, rfl⟩)) e2
      · exact key _ (ps_ldv (Or.inr ⟨q, e1, e2, rfl⟩)) e3
    | b + 1, hc =>
      have hc : (Nat.beq (b + 1) 1 && (Nat.beq cc 0 && decide (pd_pw (pm_at 0 tg 0) = .fieldLink (pd_mm k).1.cls n "java/lang/String" "coder" "B"))) = true := hc
      simp only [Bool.and_eq_true] at hc
      have hb1 : b = 0 := by have := Nat.eq_of_beq_eq_true hc.1; omega
      have hcc : cc = 0 := Nat.eq_of_beq_eq_true hc.2.1
      have ew := of_decide_eq_true hc.2.2
      subst hcc
      subst hb1
      refine ps_simple (hk _ _ _ _ h0) (fun H locs lsM cells slots hw hl hs K => ?_)
      rw [hn] at K
      have K : W p l e R s m args below meth c H locs cells slots Q (F0 m _ lsM (.int (h.2.1 w 1) :: t.map (ps_v X))) := K
      have hr := ro H hw
      obtain ⟨e1, e2, e3⟩ := hw.2.2.2.2.2 w hr
      obtain ⟨c1, c2, -⟩ := hE.2.2.1 w hr (by rw [← e1]; exact hq)
      rw [e2] at K
      show W p l e R s m args below meth c H locs cells slots Q (F0 m _ lsM (ps_v X (.ref w) :: t.map (ps_v X)))
      rw [ps_vref hE hw (by rw [hq]; decide), ps_ad_ro hr]
      exact vk_getf hx hb c2 hs hown (hts _ (pf_good (pf_pw_in ew (fun z => by cases z)) rfl)) (fun x h1 => h1) hd K
  next => cases h0
/-- writing a field of an own cell -/
theorem ps_fput {H : Heap} {locs : List Loc} {lsM : Array Slot} {cells slots : Nat} {own : String} {idx w pc : Nat} {rest : List Value} {z : Value} (hx : p.tables.exec = Jvm.exec) (hb : c.code = (pd_mm k).2.1) (hown : s.vm.findClass own = some m.cls) (hts : ∀ w ∈ pf_ws, w.before args s = true) (hE : ps_Env X s s.heap) (hw : ps_W X h H) (hs : va_S (ps_A X) s.heap H locs) (hka : (pm_kd h w).1 = 1) (hkb : (pm_kd h w).2.1 = a) (ha : a < pd_nC) (hbN : b < pd_N a) (hT : (pd_T a b).1 = pd_R a) {j nest : Nat} (hp : pf_eqf (pd_pw j) own idx (pd_R a) (pd_T a b).2.1 (pd_T a b).2.2.1 nest = true) (hfin : (pd_T a b).2.2.2 = false ∨ (nest = 0 ∧ meth.name = "<init>" ∧ own = pd_R a)) (hd : decode (pd_mm k).2.1 pc = .ok (.putfield idx, 3))
    {ty : FieldType} (hty : pd_Y a b = ty) (hnr : narrow ty z = z) (hfit : fits ty z = true)
    (K : ∀ (H1 : Heap) (locs1 : List Loc), va_P X.2.2.2.2.1 pd_cl ((ps_ws X h).set (w - pm_NR) (ps_ad X w, .inr (a, (ps_fs X h w a).set b z))) H1 → va_S (ps_A X) s.heap H1 locs1 → W p l e R s m args below meth c H1 locs1 cells slots Q (F0 m (pc + 3) lsM rest)) : W p l e R s m args below meth c H locs cells slots Q (F0 m pc lsM (z :: .ref (ps_ad X w) :: rest)) := by
  have hr := ps_ro1 hE hw hka
  have he : (ps_ws X h)[w - pm_NR]? = some (ps_ad X w, .inr (a, ps_fs X h w a)) := by
    rw [← hkb, ← ps_E_obj hka]
    exact ps_ws_at hr (hw.lt (by rw [hka]; decide))
  have hsame : ∀ x, s.fieldFound? (pd_T a b).1 (pd_T a b).2.1 (pd_T a b).2.2.1 = some x → s.fieldFound? (pd_R a) (pd_T a b).2.1 (pd_T a b).2.2.1 = some x := fun x h1 => by rw [← hT]; exact h1
  have hdesc : parseFieldDescriptor (pd_T a b).2.2.1 = some ty := by rw [← hty]; exact pf_fty a ha b hbN
  have hlen : b < (ps_fs X h w a).length := by rw [ps_fs_len]; exact hbN
  cases nest with
  | zero =>
    have e := of_decide_eq_true hp
    have hl := hts _ (pf_good (pf_pw_in e (fun z => by cases z)) rfl)
    cases hf : (pd_T a b).2.2.2 with
    | false => exact va_put hx hb hts (pf_lays a ha) (pd_Y a) (pf_fty a ha) (pf_fnm a ha) hown hE.1 hw.2.2.1 (ps_D X h) hs (w - pm_NR) he (ps_cl ha) b hbN hl hsame hf hdesc hnr hfit hlen hd (fun H1 locs1 hP hD hs1 => K H1 locs1 hP hs1)
    | true =>
      rcases hfin with z1 | ⟨-, z2, z3⟩
      · rw [hf] at z1; cases z1
      · exact va_putF hx hb hts (pf_lays a ha) (pd_Y a) (pf_fty a ha) (pf_fnm a ha) hown hE.1 hw.2.2.1 (ps_D X h) hs (w - pm_NR) he (ps_cl ha) b hbN hl hsame hf z2 (hT.trans z3.symm) hdesc hnr hfit hlen hd (fun H1 locs1 hP hD hs1 => K H1 locs1 hP hs1)
  | succ n =>
    have e := of_decide_eq_true hp
    have hl := va_Nw.use (A := args) rfl (hE.2.2.2.2.2.1 _ (pf_pw_in e (fun z => by cases z)) rfl)
    rcases hfin with hf | ⟨z1, -⟩
    · exact va_putN hx hb hts (pf_lays a ha) (pd_Y a) (pf_fty a ha) (pf_fnm a ha) hown hE.1 hw.2.2.1 (ps_D X h) hs (w - pm_NR) he (ps_cl ha) b hbN hl hsame hf hdesc hnr hfit hlen hd (fun H1 locs1 hP hD hs1 => K H1 locs1 hP hs1)
    · cases z1
theorem ps_fs_set {h' : pm_H} {w : Nat} {z : Value} (hbN : b < pd_N a) (hz : ps_fv X h' w a b = z) (ho : ∀ j, j ≠ b → ps_fv X h' w a j = ps_fv X h w a j) : (ps_fs X h w a).set b z = ps_fs X h' w a := by
  apply List.ext_getElem?
  intro j
  by_cases hj : j < pd_N a
  · rw [ps_fs_at hj, List.getElem?_set]
    by_cases e : b = j
    · subst e
      rw [if_pos rfl, if_pos (by rw [ps_fs_len]; exact hj), hz]
    · rw [if_neg e, ps_fs_at hj, ho j (fun q => e q.symm)]
  · rw [List.getElem?_eq_none (by rw [List.length_set, ps_fs_len]; omega), List.getElem?_eq_none (by rw [ps_fs_len]; omega)]
theorem pf_ty_of {t : FieldType} : (pf_tc t = 0 → t = .int) ∧ (pf_tc t = 1 → t = .boolean) ∧ (pf_tc t = 2 → t = .long) := by
  refine ⟨fun h => ?_, fun h => ?_, fun h => ?_⟩ <;> cases t <;> first | rfl | cases h
/-- references alone have the number 3 among this claim's fields -/
theorem pf_refs : ∀ c, c < pd_nC → ∀ k, k < pd_N c → pf_tc (pd_Y c k) = 3 → (pd_Y c k).isReference = true := by decide +kernel
theorem pf_nref {t : FieldType} (h : t.isReference = true) (q : Nat) : narrow t (.ref q) = .ref q := by
  cases t <;> first | rfl | cases h
theorem pf_fref {t : FieldType} (h : t.isReference = true) (q : Nat) : fits t (.ref q) = true := by
  cases t <;> first | rfl | cases h
theorem ps_putfield {n : Nat} (hF : ps_F p s m args meth c k X) (hk : ∀ i ls st h, kk i ls st h = some x → ps_G p l e R s m args below meth c Q X k cE sE x i ls st h) (hok : pf_ok (pd_mm k) (pd_pcs k) (pd_pc k i) (pd_pc k (i + 1)) (.putfield n, a, b, cc, v, tg) = true) (h0 : pm_sem (.putfield n) a b cc v tg i kk call ls st h = some x) : ps_G p l e R s m args below meth c Q X k cE sE x i ls st h := by
  obtain ⟨hx, hb, hml, hown, hret, hnm, hts, hE, -⟩ := hF
  obtain ⟨hd, hn, hc⟩ := ps_ok (by intro q; cases q) hok
  have hc : (Nat.ble (a + 1) pd_nC && (Nat.ble (b + 1) (pd_N a) && (Nat.beq cc (pf_tc (pd_Y a b)) && (decide ((pd_T a b).1 = pd_R a) && (pf_eqf (pd_pw (pm_at 0 tg 0)) (pd_mm k).1.cls n (pd_R a) (pd_T a b).2.1 (pd_T a b).2.2.1 (pm_at 0 tg 1) && (!(pd_T a b).2.2.2 || (Nat.beq (pm_at 0 tg 1) 0 && (decide ((pd_mm k).1.name = "<init>") && decide ((pd_mm k).1.cls = pd_R a))))))))) = true := hc
  simp only [Bool.and_eq_true] at hc
  have ha1 : a < pd_nC := Nat.le_of_ble_eq_true hc.1
  have hb1 : b < pd_N a := Nat.le_of_ble_eq_true hc.2.1
  have hcc : cc = pf_tc (pd_Y a b) := Nat.eq_of_beq_eq_true hc.2.2.1
  have hT := of_decide_eq_true hc.2.2.2.1
  have hp := hc.2.2.2.2.1
  have hfin : (pd_T a b).2.2.2 = false ∨ (pm_at 0 tg 1 = 0 ∧ meth.name = "<init>" ∧ (pd_mm k).1.cls = pd_R a) := by
    have h5 := hc.2.2.2.2.2
    simp only [Bool.or_eq_true, Bool.not_eq_true', Bool.and_eq_true, decide_eq_true_eq] at h5
    rcases h5 with q | ⟨q1, q2, q3⟩
    · exact Or.inl q
    · exact Or.inr ⟨Nat.eq_of_beq_eq_true q1, hnm q2, q3⟩
  dsimp only [pm_sem] at h0
  split at h0
  next z w t =>
    obtain ⟨g, h0⟩ := pm_go_n h0
    simp only [Bool.and_eq_true] at g
    have hr : pm_NR ≤ w := Nat.le_of_ble_eq_true g.1
    have hq := pm_is_e g.2.1
    refine ps_wrote (hk _ _ _ _ h0) rfl (fun H locs lsM cells slots hw hl hs K => ?_)
    rw [hn] at K
    show W p l e R s m args below meth c H locs cells slots Q (F0 m _ lsM (.int z :: ps_v X (.ref w) :: t.map (ps_v X)))
    rw [ps_vref (r := w) hE hw (by rw [hq.1]; decide)]
    have hle : cc ≤ 1 := Nat.le_of_ble_eq_true g.2.2.1
    have fin : ∀ ty, pd_Y a b = ty → narrow ty (.int z) = .int z → fits ty (.int z) = true → pf_tc ty = 0 ∨ pf_tc ty = 1 → W p l e R s m args below meth c H locs cells slots Q (F0 m (pd_pc k i) lsM (.int z :: .ref (ps_ad X w) :: t.map (ps_v X))) := by
      intro ty hty h1 h2 h3
      refine ps_fput hx hb hown hts hE hw hs hq.1 hq.2 ha1 hb1 hT hp hfin hd hty h1 h2 (fun H1 locs1 hP hs1 => K H1 locs1 ?_ hs1)
      refine hw.put hr (hw.lt (by rw [hq.1]; decide)) rfl (fun j hj => by simp [pm_setI, pm_up, hj]) ?_
      rw [ps_E_obj (by exact hq.1)]
      show va_P _ _ ((ps_ws X h).set _ (_, .inr ((pm_kd h w).2.1, ps_fs X _ w (pm_kd h w).2.1))) _
      rw [hq.2, ← ps_fs_set (h := h) (z := .int z) hb1 (by unfold ps_fv; rw [hty]; rcases h3 with e | e <;> rw [e] <;> simp [pm_setI, pm_up, upd]) (fun j hj => by unfold ps_fv; simp [pm_setI, pm_up, upd, hj])]
      exact hP
    rcases ps_tc3 (pd_Y a b) with e | e | e | e
    · have ety := pf_ty_of.1 e
      exact fin _ ety rfl rfl (Or.inl rfl)
    · have ety := pf_ty_of.2.1 e
      have hz : pm_okz 1 z = true := by rw [e] at hcc; subst hcc; exact g.2.2.2
      simp only [pm_okz, Bool.or_eq_true, beq_iff_eq] at hz
      refine fin _ ety ?_ ?_ (Or.inr rfl) <;> rcases hz with rfl | rfl <;> decide
    · omega
    · omega
  next z w t =>
    obtain ⟨g, h0⟩ := pm_go_n h0
    simp only [Bool.and_eq_true] at g
    have hr : pm_NR ≤ w := Nat.le_of_ble_eq_true g.1
    have hq := pm_is_e g.2.1
    refine ps_wrote (hk _ _ _ _ h0) rfl (fun H locs lsM cells slots hw hl hs K => ?_)
    rw [hn] at K
    show W p l e R s m args below meth c H locs cells slots Q (F0 m _ lsM (.long z :: ps_v X (.ref w) :: t.map (ps_v X)))
    rw [ps_vref (r := w) hE hw (by rw [hq.1]; decide)]
    have hc2 : cc = 2 := Nat.eq_of_beq_eq_true g.2.2
    have e : pf_tc (pd_Y a b) = 2 := hcc.symm.trans hc2
    have ety := pf_ty_of.2.2 e
    refine ps_fput hx hb hown hts hE hw hs hq.1 hq.2 ha1 hb1 hT hp hfin hd ety rfl rfl (fun H1 locs1 hP hs1 => K H1 locs1 ?_ hs1)
    refine hw.put hr (hw.lt (by rw [hq.1]; decide)) rfl (fun j hj => by simp [pm_setL, pm_up, hj]) ?_
    rw [ps_E_obj (by exact hq.1)]
    show va_P _ _ ((ps_ws X h).set _ (_, .inr ((pm_kd h w).2.1, ps_fs X _ w (pm_kd h w).2.1))) _
    rw [hq.2, ← ps_fs_set (h := h) (z := .long z) hb1 (by unfold ps_fv; rw [e]; simp [pm_setL, pm_up, vp_updL]) (fun j hj => by unfold ps_fv; simp [pm_setL, pm_up, vp_updL, hj])]
    exact hP
  next z w t =>
    obtain ⟨g, h0⟩ := pm_go_n h0
    simp only [Bool.and_eq_true] at g
    have hr : pm_NR ≤ w := Nat.le_of_ble_eq_true g.1
    have hq := pm_is_e g.2.1
    refine ps_wrote (hk _ _ _ _ h0) rfl (fun H locs lsM cells slots hw hl hs K => ?_)
    rw [hn] at K
    show W p l e R s m args below meth c H locs cells slots Q (F0 m _ lsM (ps_v X (.ref z) :: ps_v X (.ref w) :: t.map (ps_v X)))
    rw [ps_vref (r := w) hE hw (by rw [hq.1]; decide)]
    have hc3 : cc = 3 := Nat.eq_of_beq_eq_true g.2.2.1
    have e : pf_tc (pd_Y a b) = 3 := hcc.symm.trans hc3
    have h40 : z ≠ 40 := fun q => by rw [q] at g; cases g.2.2.2
    rw [show ps_v X (.ref z) = .ref (ps_ad X z) from if_neg h40]
    refine ps_fput hx hb hown hts hE hw hs hq.1 hq.2 ha1 hb1 hT hp hfin hd rfl (pf_nref (pf_refs a ha1 b hb1 e) _) (pf_fref (pf_refs a ha1 b hb1 e) _) (fun H1 locs1 hP hs1 => K H1 locs1 ?_ hs1)
    refine hw.put hr (hw.lt (by rw [hq.1]; decide)) rfl (fun j hj => by simp [pm_setR, pm_up, hj]) ?_
    rw [ps_E_obj (by exact hq.1)]
    show va_P _ _ ((ps_ws X h).set _ (_, .inr ((pm_kd h w).2.1, ps_fs X _ w (pm_kd h w).2.1))) _
    rw [hq.2, ← ps_fs_set (h := h) (z := .ref (ps_ad X z)) hb1 (by unfold ps_fv; rw [e]; simp [pm_setR, pm_up, va_up, va_rf]) (fun j hj => by unfold ps_fv; simp [pm_setR, pm_up, va_up, hj])]
    exact hP
  next => cases h0
end
