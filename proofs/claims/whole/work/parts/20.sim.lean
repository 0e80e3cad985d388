/-! THE SIMULATION, a step, a run, calls -/
section
variable {p : Program} {l : Launch} {e : Env} {R : Room} {s : State} {m : MethodId} {args : Array Value} {below : List Frame} {meth : Method} {c : Code} {Q : State → Prop} {X : ps_X} {k cE sE : Nat} {x : Option Value × pm_H} {kk : pm_K} {call : Nat → List Value → pm_H → pm_R} {a b cc : Nat} {v : Value} {tg : List Nat} {i : Nat} {ls st : List Value} {h : pm_H}
theorem ps_aastore (hF : ps_F p s m args meth c k X) (hk : ∀ i ls st h, kk i ls st h = some x → ps_G p l e R s m args below meth c Q X k cE sE x i ls st h) (hok : pf_ok (pd_mm k) (pd_pcs k) (pd_pc k i) (pd_pc k (i + 1)) (.aastore, a, b, cc, v, tg) = true) (h0 : pm_sem (.aastore) a b cc v tg i kk call ls st h = some x) : ps_G p l e R s m args below meth c Q X k cE sE x i ls st h := by
  obtain ⟨hx, hb, hml, hown, hret, hnm, hts, hE, -⟩ := hF
  obtain ⟨hd, hn, hc⟩ := ps_ok (by intro q; cases q) hok
  dsimp only [pm_sem] at h0
  split at h0
  next z y w t =>
    obtain ⟨g, h0⟩ := pm_go_n h0
    simp only [Bool.and_eq_true] at g
    obtain ⟨g1, g2, g3, g4, g5, g6⟩ := g
    have hr : pm_NR ≤ w := Nat.le_of_ble_eq_true g1
    have hrz : pm_NR ≤ z := Nat.le_of_ble_eq_true g2
    have hq1 : (pm_kd h w).1 = 2 := Nat.eq_of_beq_eq_true g3
    have hin := pm_inb_in g4
    have hz1 : (pm_kd h z).1 = 1 := Nat.eq_of_beq_eq_true g5
    have hty : (pm_kd h w).2.1 = (pm_kd h z).2.1 + 4 := Nat.eq_of_beq_eq_true g6
    have hq4 : 4 ≤ (pm_kd h w).2.1 := by omega
    refine ps_wrote (hk _ _ _ _ h0) rfl (fun H locs lsM cells slots hw hl hs K => ?_)
    rw [hn] at K
    show W p l e R s m args below meth c H locs cells slots Q (F0 m _ lsM (ps_v X (.ref z) :: .int y :: ps_v X (.ref w) :: t.map (ps_v X)))
    rw [ps_vref (r := z) hE hw (by rw [hz1]; decide), ps_vref (r := w) hE hw (by rw [hq1]; decide)]
    have ha := ps_arr hw hr hq1
    obtain ⟨t0, ht0⟩ := ps_tys_at (X := X) (ps_own_ty hw hr hq1)
    rw [ps_el4 hq4] at ha
    rw [ps_ty4 hq4, show (pm_kd h w).2.1 - 4 = (pm_kd h z).2.1 by omega] at ht0
    have hv : (ps_ws X h)[z - pm_NR]? = some (ps_ad X z, .inr ((pm_kd h z).2.1, ps_fs X h z (pm_kd h z).2.1)) := by
      rw [← ps_E_obj hz1]
      exact ps_ws_at hrz (hw.lt (by rw [hz1]; decide))
    refine va_astq hx hb hE.1 hw.2.2.1 (ps_D X h) hs (w - pm_NR) t0 (z - pm_NR) (pm_kd h z).2.1 ha ht0 hv (ps_cl (ps_own_cl hw hrz hz1)) hin hd (fun H1 locs1 hP hD hs1 => K H1 locs1 ?_ hs1)
    refine hw.put hr (hw.lt (by rw [hq1]; decide)) rfl (fun j hj => by simp [pm_setR, pm_up, hj]) ?_
    rw [ps_E_arr (by exact hq1)]
    show va_P _ _ ((ps_ws X h).set _ (_, .inl (X.2.2.2.1 (pm_kd h w).2.1, (pm_kd h w).2.2, ps_el X _ w (pm_kd h w).2.1))) _
    rw [ps_el4 hq4]
    have ee : (fun j => ((pm_setR h w y.toNatClampNeg (some z)).2.2.2 w j).map (ps_ad X)) = va_up (fun j => (h.2.2.2 w j).map (ps_ad X)) y.toNatClampNeg (some (ps_ad X z)) := by
      funext j
      by_cases hj : j = y.toNatClampNeg <;> simp [pm_setR, pm_up, va_up, hj]
    rw [ee]
    exact hP
  next => cases h0
set_option maxHeartbeats 4000000 in
theorem ps_step {q : pm_I} (hcl : ps_call l R X call) (hR : 1 ≤ R.frames ∧ 100 ≤ R.locals) (hC : cE ≤ R.cells ∧ sE ≤ R.slots) (hz : s.heap.size + cE = X.1 + (x.2.1.1 - pm_NR)) (hQ : ps_Q p l e R s m args below meth c Q X k cE sE x) (hF : ps_F p s m args meth c k X) (hk : ∀ i ls st h, kk i ls st h = some x → ps_G p l e R s m args below meth c Q X k cE sE x i ls st h) (hok : pf_ok (pd_mm k) (pd_pcs k) (pd_pc k i) (pd_pc k (i + 1)) q = true) (h0 : pm_sem q.1 q.2.1 q.2.2.1 q.2.2.2.1 q.2.2.2.2.1 q.2.2.2.2.2 i kk call ls st h = some x) : ps_G p l e R s m args below meth c Q X k cE sE x i ls st h := by
  obtain ⟨ins, a, b, cc, v, tg⟩ := q
  have h0 : pm_sem ins a b cc v tg i kk call ls st h = some x := h0
  cases ins with
  | iconst n =>
    exact ps_iconst hF hk hok h0
  | bipush n =>
    exact ps_bipush hF hk hok h0
  | sipush n =>
    exact ps_sipush hF hk hok h0
  | lconst n =>
    exact ps_lconst hF hk hok h0
  | iload_n n =>
    exact ps_iload_n hF hk hok h0
  | iload n =>
    exact ps_iload hF hk hok h0
  | lload_n n =>
    exact ps_lload_n hF hk hok h0
  | lload n =>
    exact ps_lload hF hk hok h0
  | aload_n n =>
    exact ps_aload_n hF hk hok h0
  | aload n =>
    exact ps_aload hF hk hok h0
  | istore_n n =>
    exact ps_istore_n hF hk hok h0
  | istore n =>
    exact ps_istore hF hk hok h0
  | lstore_n n =>
    exact ps_lstore_n hF hk hok h0
  | lstore n =>
    exact ps_lstore hF hk hok h0
  | astore_n n =>
    exact ps_astore_n hF hk hok h0
  | astore n =>
    exact ps_astore hF hk hok h0
  | iinc n d =>
    exact ps_iinc hF hk hok h0
  | iadd =>
    exact ps_iadd hF hk hok h0
  | isub =>
    exact ps_isub hF hk hok h0
  | imul =>
    exact ps_imul hF hk hok h0
  | iand =>
    exact ps_iand hF hk hok h0
  | ior =>
    exact ps_ior hF hk hok h0
  | ixor =>
    exact ps_ixor hF hk hok h0
  | ishl =>
    exact ps_ishl hF hk hok h0
  | ishr =>
    exact ps_ishr hF hk hok h0
  | ladd =>
    exact ps_ladd hF hk hok h0
  | lsub =>
    exact ps_lsub hF hk hok h0
  | lmul =>
    exact ps_lmul hF hk hok h0
  | land =>
    exact ps_land hF hk hok h0
  | lor =>
    exact ps_lor hF hk hok h0
  | lshl =>
    exact ps_lshl hF hk hok h0
  | lshr =>
    exact ps_lshr hF hk hok h0
  | lcmp =>
    exact ps_lcmp hF hk hok h0
  | idiv =>
    exact ps_idiv hF hk hok h0
  | irem =>
    exact ps_irem hF hk hok h0
  | ldiv =>
    exact ps_ldiv hF hk hok h0
  | lrem =>
    exact ps_lrem hF hk hok h0
  | ineg =>
    exact ps_ineg hF hk hok h0
  | lneg =>
    exact ps_lneg hF hk hok h0
  | i2l =>
    exact ps_i2l hF hk hok h0
  | l2i =>
    exact ps_l2i hF hk hok h0
  | i2c =>
    exact ps_i2c hF hk hok h0
  | dup =>
    exact ps_dup hF hk hok h0
  | dup2 =>
    exact ps_dup2 hF hk hok h0
  | pop =>
    exact ps_pop hF hk hok h0
  | iaload =>
    exact ps_iaload hF hk hok h0
  | baload =>
    exact ps_baload hF hk hok h0
  | laload =>
    exact ps_laload hF hk hok h0
  | aaload =>
    exact ps_aaload hF hk hok h0
  | iastore =>
    exact ps_iastore hF hk hok h0
  | bastore =>
    exact ps_bastore hF hk hok h0
  | lastore =>
    exact ps_lastore hF hk hok h0
  | arraylength =>
    exact ps_arraylength hF hk hok h0
  | goto off =>
    exact ps_goto hF hk hok h0
  | ifCond cn off =>
    cases cn with
    | eq => exact ps_ifCond_eq hF hk hok h0
    | ne => exact ps_ifCond_ne hF hk hok h0
    | lt => exact ps_ifCond_lt hF hk hok h0
    | ge => exact ps_ifCond_ge hF hk hok h0
    | gt => exact ps_ifCond_gt hF hk hok h0
    | le => exact ps_ifCond_le hF hk hok h0
  | if_icmp cn off =>
    cases cn with
    | eq => exact ps_if_icmp_eq hF hk hok h0
    | ne => exact ps_if_icmp_ne hF hk hok h0
    | lt => exact ps_if_icmp_lt hF hk hok h0
    | ge => exact ps_if_icmp_ge hF hk hok h0
    | gt => exact ps_if_icmp_gt hF hk hok h0
    | le => exact ps_if_icmp_le hF hk hok h0
  | ifnull off =>
    exact ps_ifnull hF hk hok h0
  | ifnonnull off =>
    exact ps_ifnonnull hF hk hok h0
  | tableswitch d lo hi offs =>
    exact ps_tableswitch hF hk hok h0
  | lookupswitch d ps =>
    exact ps_lookupswitch hF hk hok h0
  | getstatic n =>
    exact ps_getstatic hF hk hok h0
  | ldc n =>
    exact ps_ldc hF hk hok h0
  | ldc_w n =>
    exact ps_ldc_w hF hk hok h0
  | ldc2_w n =>
    exact ps_ldc2_w hF hk hok h0
  | checkcast n =>
    exact ps_checkcast hF hk hok h0
  | putfield n =>
    exact ps_putfield hF hk hok h0
  | getfield n =>
    by_cases q : a = 1000
    · subst q
      exact ps_getfieldS hF hk hok h0
    · exact ps_getfield q hF hk hok h0
  | new n =>
    exact ps_new hC hz hF hk hok h0
  | newarray n =>
    exact ps_newarray hC hz hF hk hok h0
  | anewarray n =>
    exact ps_anewarray hC hz hF hk hok h0
  | invokestatic n =>
    by_cases q : cc = 8
    · subst q
      exact ps_arraycopy hR hF hk hok h0
    · exact ps_invokestatic q hcl hC hz hF hk hok h0
  | invokespecial n =>
    by_cases q : cc = 7
    · subst q
      exact ps_objInit hR hF hk hok h0
    · exact ps_invokespecial q hcl hC hz hF hk hok h0
  | invokevirtual n =>
    by_cases q : cc = 9
    · subst q
      exact ps_clone hR hC hz hF hk hok h0
    · exact ps_invokevirtual q hcl hC hz hF hk hok h0
  | ireturn =>
    exact ps_ireturn hF hQ hok h0
  | lreturn =>
    exact ps_lreturn hF hQ hok h0
  | areturn =>
    exact ps_areturn hF hQ hok h0
  | return_ =>
    exact ps_return hF hQ hok h0
  | aastore =>
    exact ps_aastore hF hk hok h0
  | _ => exact absurd (show (none : pm_R) = some x from h0) (by intro z; cases z)
theorem pf_all_at {M : pd_M} {pcs : List Nat} : ∀ (l : List pm_I) (L : List Nat), pf_all M pcs L l = true → ∀ t, pf_ok M pcs (pm_at 0 L t) (pm_at 0 L (t + 1)) (pm_at pd_nop l t) = true := by
  intro l
  induction l with
  | nil => intro L _ t; rfl
  | cons q l ih =>
    intro L h t
    match L, h with
    | pc :: pn :: T, h =>
      have h : (pf_ok M pcs pc pn q && pf_all M pcs (pn :: T) l) = true := h
      rw [Bool.and_eq_true] at h
      cases t with
      | zero => exact h.1
      | succ t => exact ih (pn :: T) h.2 t
    | [], h => cases h
    | [_], h => cases h
theorem pm_at_drop (l : List Nat) : ∀ (n t : Nat), pm_at 0 (l.drop n) t = pm_at 0 l (n + t) := by
  induction l with
  | nil => intro n t; cases n <;> rfl
  | cons a l ih =>
    intro n t
    cases n with
    | zero => rw [Nat.zero_add]; rfl
    | succ n => rw [show n + 1 + t = (n + t) + 1 by omega]; exact ih n t
theorem pm_at_ge {α : Type} (d : α) (l : List α) : ∀ i, l.length ≤ i → pm_at d l i = d := by
  induction l with
  | nil => intro i _; rfl
  | cons a l ih =>
    intro i h
    cases i with
    | zero => exact absurd h (by simp)
    | succ i => exact ih i (by simpa using h)
theorem pf_ok_at {k : Nat} (hk : k < pd_nM) (i : Nat) : pf_ok (pd_mm k) (pd_pcs k) (pd_pc k i) (pd_pc k (i + 1)) (pd_i k i) = true := by
  have h := pf_all_m k hk
  unfold pf_run at h
  rw [Bool.and_eq_true] at h
  show pf_ok _ _ _ _ (pm_at pd_nop (pm_at [] (pf_cks k) (i / 16)) (i % 16)) = true
  by_cases hj : i / 16 < (pf_cks k).length
  · have h1 := List.all_eq_true.mp h.2 (i / 16) (List.mem_range.mpr hj)
    unfold pf_part at h1
    have h2 := pf_all_at _ _ h1 (i % 16)
    rw [pm_at_drop, pm_at_drop, show 16 * (i / 16) + (i % 16 + 1) = i + 1 by omega, show 16 * (i / 16) + i % 16 = i by omega] at h2
    exact h2
  · rw [pm_at_ge [] (pf_cks k) _ (by omega)]
    rfl
theorem ps_run {cl : Nat → Nat → List Value → pm_H → pm_R} (hcl : ∀ n, ps_call l R X (cl n)) (hR : 1 ≤ R.frames ∧ 100 ≤ R.locals) (hC : cE ≤ R.cells ∧ sE ≤ R.slots) (hz : s.heap.size + cE = X.1 + (x.2.1.1 - pm_NR)) (hQ : ps_Q p l e R s m args below meth c Q X k cE sE x) (hF : ps_F p s m args meth c k X) : ∀ (f i : Nat) (ls st : List Value) (h : pm_H), pm_run (pd_i k) cl f i ls st h = some x → ps_G p l e R s m args below meth c Q X k cE sE x i ls st h := by
  intro f
  induction f with
  | zero => intro i ls st h h0; cases h0
  | succ n ih =>
    intro i ls st h h0
    exact ps_step (hcl n) hR hC hz hQ hF ih (pf_ok_at hF.2.2.2.2.2.2.2.2.2 i) h0
end
/-- what d calls deep are simulated -/
def ps_sim (d : Nat) : Prop := ∀ (f k i : Nat) (ls st : List Value) (h : pm_H) (x : Option Value × pm_H), pm_ev pd_P d f k i ls st h = some x → ∀ {p : Program} {l : Launch} {e : Env} {R : Room} {s : State} {m : MethodId} {args : Array Value} {below : List Frame} {meth : Method} {c : Code} {Q : State → Prop} {X : ps_X} {cE sE : Nat}, ps_F p s m args meth c k X → d + 1 ≤ R.frames → 100 * (d + 1) ≤ R.locals → cE ≤ R.cells ∧ sE ≤ R.slots → s.heap.size + cE = X.1 + (x.2.1.1 - pm_NR) → ps_Q p l e R s m args below meth c Q X k cE sE x → ps_G p l e R s m args below meth c Q X k cE sE x i ls st h
/-! a call's contract -/
theorem ps_ofW {l : Launch} {y : MethodName} {ws ws' : List Cond} {rm : Room} {Pc : Array Value → State → Prop} {Qc : Array Value → State → Outcome → State → Prop} {mc ms : Nat} {free : Addr → Prop} {cc : ByteArray} {maxL : Nat} {ret : Option FieldType} (hy : plainFor y = true) (hw : ws = Cond.code y cc maxL ret :: ws')
    (body : ∀ p e s m args below meth c s₁, BodyLoose p l y (headSpec ws rm) cc maxL ret e s m args below meth c s₁ → c.maxLocals = maxL → Pc args s → W p l e (headSpec ws rm).room s m args below meth c s.heap [] 0 0 (MQ below Qc args s mc ms free) (entryFrame m args maxL)) : Met l y ws rm Pc Qc mc ms free := by
  refine MetFree.of_bodySF (code := cc) (maxLocals := maxL) (ret := ret) hy (fun args s m h hn => ?_) (fun p e s m args below meth c s₁ B hml hP _ => ?_)
  · obtain ⟨meth, c, h1, h2, h3, h4, h5, h6, -, -⟩ := Cond.code_spec hn (atoms_spec (ws := ws) h _ (by rw [hw]; exact List.mem_cons_self))
    exact ⟨meth, c, h1, h2, h3, h4, h5, h6⟩
  · obtain ⟨t, a1, o, b1, b2, b3⟩ := body p e s m args below meth c s₁ B hml hP s₁ (by rw [B.state]; rfl) (Stand.of_body B)
    exact ⟨t, o, a1, b1, b2, b3⟩
theorem ps_argl {X : ps_X} (hn : X.2.2.1 = .null ∨ ∃ t, X.2.2.1 = .ref t) (as : List Value) : (lg_sl (as.map (ps_v X))).length = (pm_args as).length := by
  induction as with
  | nil => rfl
  | cons v t ih =>
    have hc := ps_v_cat hn v
    have e1 : lg_sl ((v :: t).map (ps_v X)) = (if (ps_v X v).category = 2 then [.val (ps_v X v), .second] else [.val (ps_v X v)]) ++ lg_sl (t.map (ps_v X)) := rfl
    rw [e1, List.length_append, ih, hc]
    cases v <;> simp [pm_args, Value.category] <;> omega
theorem ps_argm {X : ps_X} (hn : X.2.2.1 = .null ∨ ∃ t, X.2.2.1 = .ref t) (as : List Value) : ∀ (o i : Nat) (v : Value), pm_lk (pm_args as) i = v → v ≠ .null → (o + i, ps_v X v) ∈ lv_args o (as.map (ps_v X)) := by
  induction as with
  | nil => intro o i v h hv; exact absurd h.symm hv
  | cons w t ih =>
    intro o i v h hv
    have hc := ps_v_cat hn w
    have e1 : lv_args o ((w :: t).map (ps_v X)) = (o, ps_v X w) :: lv_args (if (ps_v X w).category = 2 then o + 2 else o + 1) (t.map (ps_v X)) := rfl
    rw [e1, hc]
    have one : pm_args (w :: t) = w :: pm_args t → w.category = 1 → (o + i, ps_v X v) ∈ (o, ps_v X w) :: lv_args (if w.category = 2 then o + 2 else o + 1) (t.map (ps_v X)) := by
      intro e2 e3
      rw [e2] at h
      cases i with
      | zero => rw [← show w = v from h]; exact List.mem_cons_self
      | succ i =>
        rw [if_neg (by rw [e3]; decide), show o + (i + 1) = (o + 1) + i by omega]
        exact List.mem_cons_of_mem _ (ih (o + 1) i v h hv)
    have two : pm_args (w :: t) = w :: .null :: pm_args t → w.category = 2 → (o + i, ps_v X v) ∈ (o, ps_v X w) :: lv_args (if w.category = 2 then o + 2 else o + 1) (t.map (ps_v X)) := by
      intro e2 e3
      rw [e2] at h
      match i, h with
      | 0, h => rw [← show w = v from h]; exact List.mem_cons_self
      | 1, h => exact absurd (show Value.null = v from h).symm hv
      | i + 2, h =>
        rw [if_pos e3, show o + (i + 2) = (o + 2) + i by omega]
        exact List.mem_cons_of_mem _ (ih (o + 2) i v h hv)
    cases w <;> first | exact one rfl rfl | exact two rfl rfl
theorem ps_padm (l : List Value) : ∀ (n i : Nat) (v : Value), pm_lk (pm_pad n l) i = v → v ≠ .null → pm_lk l i = v := by
  induction l with
  | nil =>
    intro n
    induction n with
    | zero => intro i v h hv; exact h
    | succ n ih =>
      intro i v h hv
      cases i with
      | zero => exact absurd h.symm hv
      | succ i => exact ih i v h hv
  | cons a t ih =>
    intro n i v h hv
    cases n with
    | zero => exact absurd h.symm hv
    | succ n =>
      cases i with
      | zero => exact h
      | succ i => exact ih n i v h hv
theorem ps_nz {cc : Nat} {ty : FieldType} {z : Int32} (h1 : pf_rc cc (some ty) = true) (h2 : pm_okz cc z = true) : narrow ty (.int z) = .int z := by
  cases ty with
  | int => rfl
  | boolean =>
    obtain rfl : cc = 1 := Nat.eq_of_beq_eq_true h1
    simp only [pm_okz, Bool.or_eq_true, beq_iff_eq] at h2
    rcases h2 with rfl | rfl <;> decide
  | char =>
    obtain rfl : cc = 2 := Nat.eq_of_beq_eq_true h1
    simp only [pm_okz, Bool.and_eq_true, decide_eq_true_eq] at h2
    obtain ⟨j, hj, rfl⟩ := nI_of2 (M := 65535) (n := 65535) rfl (Int32.not_lt.mpr h2.1) h2.2
    exact (pk_charN (by omega)).1
  | byte =>
    obtain rfl : cc = 3 := Nat.eq_of_beq_eq_true h1
    simp only [pm_okz, Bool.and_eq_true, decide_eq_true_eq] at h2
    have a1 := Int32.le_iff_toInt_le.mp h2.1
    have a2 := Int32.le_iff_toInt_le.mp h2.2
    have e1 : (-128 : Int32).toInt = -128 := rfl
    have e2 : (127 : Int32).toInt = 127 := rfl
    rw [e1] at a1
    rw [e2] at a2
    show Value.int z.toInt8.toInt32 = _
    congr 1
    apply Int32.toInt_inj.mp
    rw [Int8.toInt_toInt32, Int32.toInt_toInt8]
    exact Int.bmod_eq_of_le (by omega) (by omega)
  | _ => cases h1
theorem ps_pc0 : ((List.range pd_nM).all fun y => Nat.beq (pd_pc y 0) 0) = true := by decide +kernel
theorem ps_met {d : Nat} (hsim : ps_sim d) {l : Launch} {X : ps_X} {f y : Nat} {as : List Value} {h : pm_H} {r : Option Value} {h1 : pm_H} (hy : 1 ≤ y) (hyM : y < pd_nM) (hlen : (pm_args as).length ≤ (pd_mm y).2.2.1) (hev : pm_ev pd_P d f y 0 (pm_pad (pd_mm y).2.2.1 (pm_args as)) [] h = some (r, h1)) : Met l (pd_mm y).1 (ps_mw y) { frames := d + 1, cells := h1.1.1 - h.1.1, slots := h1.1.2.1 - h.1.2.1, locals := 100 * (d + 1) } (ps_Pc X as h) (ps_Qc X r h1) (h1.1.1 - h.1.1) (h1.1.2.1 - h.1.2.1) (ps_A X) := by
  obtain ⟨f1, f2, f3, f4, f5, f6⟩ := pf_meth hy hyM
  have hmono := pm_mono d f y 0 _ _ h _ hev
  refine ps_ofW f4 rfl ?_
  intro p e s m args below meth c s₁ B hml hv
  obtain ⟨rfl, hE, hw, hsz⟩ := hv
  have hnv := hE.2.2.2.2.2.2.2.1
  have hF : ps_F p s m (as.map (ps_v X)).toArray meth c y X := ⟨B.exec, B.bytes, hml, findClass_of_methodNamed B.named, B.returns, fun h9 => (name_of_methodNamed B.named B.method).1.trans h9, fun w hw => atoms_spec (ws := ps_mw y) B.pre w (List.mem_cons_of_mem _ hw), hE, by rw [hsz]; exact Nat.le_add_right _ _, hyM⟩
  have hl := lv_entry (as.map (ps_v X)) (n := (pd_mm y).2.2.1) (by rw [ps_argl hnv]; exact hlen)
  rw [lg_entry_eq]
  generalize (lg_sl (as.map (ps_v X)) ++ List.replicate ((pd_mm y).2.2.1 - (lg_sl (as.map (ps_v X))).length) Slot.unset).toArray = lsM at hl ⊢
  have hL : ps_L X lsM (pd_mm y).2.2.1 (pm_pad (pd_mm y).2.2.1 (pm_args as)) := ⟨_, hl, fun i v hv hn => by
    have := ps_argm hnv as 0 i v (ps_padm _ _ _ _ hv hn) hn
    rwa [Nat.zero_add] at this⟩
  have hm1 : h.1.1 ≤ h1.1.1 := hmono.1
  have hQ : ps_Q p l e (headSpec (ps_mw y) { frames := d + 1, cells := h1.1.1 - h.1.1, slots := h1.1.2.1 - h.1.2.1, locals := 100 * (d + 1) }).room s m (as.map (ps_v X)).toArray below meth c (MQ below (ps_Qc X r h1) (as.map (ps_v X)).toArray s (h1.1.1 - h.1.1) (h1.1.2.1 - h.1.2.1) (ps_A X)) X y (h1.1.1 - h.1.1) (h1.1.2.1 - h.1.2.1) (r, h1) := by
    intro pc ins H locs lsM2 hd hrt hw1 hs1
    have hq : ∀ t : State, t.heap = H → s.WarmedH t.vm → ps_Qc X r h1 (as.map (ps_v X)).toArray s (.returned (r.map (ps_v X))) t := fun t ht _ => ⟨rfl, by rw [ht]; exact hw1, by rw [ht]; exact hs1.1, fun q a1 a2 => by rw [ht]; exact hs1.2.1 q a1 a2⟩
    rcases hrt with ⟨rfl, cc, z, e1, e2, e3⟩ | ⟨rfl, z, e1, e2⟩ | ⟨rfl, z, e1, e0, e2⟩ | ⟨rfl, e1, e2⟩
    · have e1 : r = some (.int z) := e1
      subst e1
      cases hty : (pd_mm y).2.2.2.1 with
      | none => rw [hty] at e2; cases e2
      | some ty =>
        rw [hty] at e2
        exact W.zret B.exec B.bytes (B.returns.trans hty) (ps_nz e2 e3) hq hs1.2.2 hd B.notSynchronized
    · have e1 : r = some (.long z) := e1
      subst e1
      exact W.lret B.exec B.bytes (B.returns.trans e2) hq hs1.2.2 hd B.notSynchronized
    · have e1 : r = some (.ref z) := e1
      subst e1
      have ev : ps_v X (.ref z) = .ref (ps_ad X z) := if_neg e0
      show W _ _ _ _ _ _ _ _ _ _ _ _ _ _ _ (F0 m pc lsM2 [ps_v X (.ref z)])
      rw [ev]
      refine W.aret (v := .ref (ps_ad X z)) B.exec B.bytes (B.returns.trans e2) (Or.inl ⟨_, rfl⟩) (Or.inr ⟨_, rfl⟩) ?_ hs1.2.2 hd B.notSynchronized
      intro t ht hW
      have := hq t ht hW
      rw [show (some (.ref z) : Option Value).map (ps_v X) = some (.ref (ps_ad X z)) by rw [← ev]; rfl] at this
      exact this
    · have e1 : r = none := e1
      subst e1
      exact W.vret B.exec B.bytes (B.returns.trans e2) hq hs1.2.2 hd B.notSynchronized
  have hG := hsim f y 0 _ [] h (r, h1) hev hF (Nat.le_refl _) (Nat.le_refl _) ⟨Nat.le_refl _, Nat.le_refl _⟩ (by have := hw.1; rw [hsz]; show X.1 + (h.1.1 - pm_NR) + (h1.1.1 - h.1.1) = X.1 + (h1.1.1 - pm_NR); omega) hQ
  have := hG.2 s.heap [] lsM 0 0 (Nat.zero_add _) (Nat.zero_add _) hw hL va_S.rf
  have h0 : pd_pc y 0 = 0 := Nat.eq_of_beq_eq_true (List.all_eq_true.mp ps_pc0 y (List.mem_range.mpr hyM))
  rw [h0] at this
  exact this
theorem ps_sim_all : ∀ d, ps_sim d := by
  intro d
  induction d with
  | zero =>
    intro f k i ls st h x h0 p l e R s m args below meth c Q X cE sE hF hf hl hC hz hQ
    exact ps_run (fun n y as h r h1 q => by cases q) ⟨by omega, by omega⟩ hC hz hQ hF f i ls st h h0
  | succ d ih =>
    intro f k i ls st h x h0 p l e R s m args below meth c Q X cE sE hF hf hl hC hz hQ
    refine ps_run (cl := fun n y as h => pm_go (Nat.ble (pm_args as).length (pd_P.2 y)) (pm_ev pd_P d n y 0 (pm_pad (pd_P.2 y) (pm_args as)) [] h) none) (fun n y as h r h1 q hy hyM => ?_) ⟨by omega, by omega⟩ hC hz hQ hF f i ls st h h0
    obtain ⟨q1, q2⟩ := pm_go_n q
    have hlen := Nat.le_of_ble_eq_true q1
    obtain ⟨-, -, -, -, -, f6⟩ := pf_meth hy hyM
    exact ⟨pm_mono d n y 0 _ _ h _ q2, { frames := d + 1, cells := h1.1.1 - h.1.1, slots := h1.1.2.1 - h.1.2.1, locals := 100 * (d + 1) }, rfl, rfl, hf, (by show 8 + ((pd_mm y).2.2.1 + 11) + 100 * (d + 1) ≤ R.locals; omega), ps_met ih hy hyM hlen q2⟩
