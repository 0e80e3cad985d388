/-! THE LAW'S ENTRY: the claim out of a statement of the pure machine alone -/
def R_law : String := "SkinTentLaw"
def lw_P (b : Addr) (xs : List Int32) (args : Array Value) (s : State) : Prop := args = #[.ref b] ∧ s.IntsAt b xs ∧ xs.length ≤ 2560 ∧ (Jvm.Cond.and given_1 narrow_1).before args s = true
def lw_Q (_ : Array Value) (s : State) (o : Outcome) (t : State) : Prop := o = .returned (some (.int 1)) ∧ Framed s o t [] 600000 7302250
def lw_Z (below : List Frame) (a : Array Value) (s : State) : State → Prop := fun t => ∃ o, t.status = .running ∧ Ended t below o ∧ lw_Q a s o t
/-- the law's own end, with 1 on the stack, nothing written that was there before, its room as the claim has it -/
theorem lw_ret {p : Program} {l : Launch} {e : Env} {s : State} {m : MethodId} {below : List Frame} {meth : Method} {c : Code} {b : Nat} (hx : p.tables.exec = Jvm.exec) (hb : c.code = code) (hr : meth.sig.returnType = ret) (hlocks : meth.locks = false) {pc : Nat} {H : Heap} {ls : Array Slot} (hdg : decode code pc = .ok (.ireturn, 1)) : W p l e room_1 s m #[Value.ref b] below meth c H [] 600000 7302250 (lw_Z below #[Value.ref b] s) (F0 m pc ls [.int 1]) := by
  intro T hT X
  obtain ⟨fs, hret, hrun, hended, hW, hframe⟩ := X.leave (v := some (.int 1)) (hlocks := hlocks) (fun h => by rw [hr] at h; cases h)
  have hmeth' : T.vm.method? m = some meth := X.method'
  refine ⟨T.setFrames fs, ?_, .returned (some (.int 1)), hrun, hended, rfl, ⟨_, rfl⟩, hW, hframe⟩
  jvm_step X.here [X.here.top, hx, hb, hdg, hmeth', hr, ret, narrow_b1]
  (try refine ⟨rfl, ?_⟩); (try refine ⟨rfl, ?_⟩)
  first | (intro acts; rw [hret _ acts rfl rfl rfl]) | rw [hret _ _ rfl rfl rfl]
  exact Steps.refl _
/-- what holds at the law's entry: the machine, the code, the tables' words (any of lw_tbl by 'hts w (by decide +kernel)'), the script of L ints xs at the cell b, what the Statement gives of the start (any of its parts by flat_of_before) -/
def lw_At (p : Program) (s : State) (m : MethodId) (meth : Method) (c : Code) (b L : Nat) (xs : Nat → Int32) : Prop :=
  p.tables.exec = Jvm.exec ∧ c.code = code ∧ meth.sig.returnType = ret ∧ c.maxLocals = 4 ∧ s.vm.findClass R_law = some m.cls ∧ (∀ w ∈ lw_tbl, w.before #[Value.ref b] s = true) ∧ va_X b L xs s s.heap ∧ b < s.heap.size ∧ meth.locks = false ∧ (Jvm.Cond.and given_1 narrow_1).before #[Value.ref b] s = true
/-- the heap at the law's entry -/
def pe_h0 (L : Nat) (xs : Nat → Int32) : pm_H := ((48, 0, fun i => (pe_ro L xs i).1), fun i => (pe_ro L xs i).2.1, fun _ _ => 0, fun i => (pe_ro L xs i).2.2)
/-- WHAT IS LEFT TO PROVE: the pure machine's run of the law ends with 1, within the room -/
def pu_law : Prop := ∀ (L : Nat) (xs : Nat → Int32), L ≤ 2560 → ∃ (d f : Nat) (h1 : pm_H), d + 1 ≤ 800 ∧ pm_ev pd_P d f 0 0 [.ref 0, .null, .null, .null] [] (pe_h0 L xs) = some (some (.int 1), h1) ∧ h1.1.1 ≤ 600048 ∧ h1.1.2.1 ≤ 7302250
theorem pe_ro_ge {L : Nat} {xs : Nat → Int32} {i : Nat} (h : 48 ≤ i) : (pe_ro L xs i).1 = (0, 0, 0) := by
  have hj : pd_nJ ≤ 16 := by decide
  have hn : pe_nT ≤ 7 := by decide
  rw [pe_ro, if_neg (by omega), if_neg (by omega), if_neg (by omega), if_neg (by omega)]
theorem whole_of (hp : pu_law) {p : Program} {e : Env} {s : State} {m : MethodId} {below : List Frame} {meth : Method} {c : Code} (l : Launch) {b L : Nat} {xs : Nat → Int32} (hL : L ≤ 2560) (C0 : lw_At p s m meth c b L xs) : W p l e room_1 s m #[Value.ref b] below meth c s.heap [] 0 0 (lw_Z below #[Value.ref b] s) (entryFrame m ([Value.ref b] : List Value).toArray 4) := by
  obtain ⟨hx, hb, hr, hml, hown, hts, hX, hbl, hlocks, hgv⟩ := C0
  obtain ⟨d, f, h1, hd, hev, hc, hs⟩ := hp L xs hL
  obtain ⟨X, x1, x2, x3, hE⟩ := pe_env hts hX hbl hL hgv
  have hmono := pm_mono d f 0 0 _ _ _ _ hev
  have hn1 : 48 ≤ h1.1.1 := hmono.1
  have hF : ps_F p s m #[Value.ref b] meth c 0 X := ⟨hx, hb, hml, hown, hr, fun h => absurd h (by decide), fun w hw => hts w (List.mem_filter.mp hw).1, hE, by rw [x1]; exact Nat.le_refl _, by decide⟩
  have hQ : ps_Q p l e room_1 s m #[Value.ref b] below meth c (lw_Z below #[Value.ref b] s) X 0 (h1.1.1 - 48) h1.1.2.1 (some (.int 1), h1) := by
    intro pc ins H locs lsM hdc hrt hw1 hs1
    rcases hrt with ⟨rfl, -⟩ | ⟨rfl, z, e1, -⟩ | ⟨rfl, z, e1, -⟩ | ⟨rfl, e1, -⟩
    · refine va_forget (fun q hq => by have := hs1.2.2 q hq; rw [← x1]; exact this) ?_
      refine W.widen (k := 600000) (n := 7302250) (by omega) hs ?_
      exact lw_ret hx hb hr hlocks hdc
    · cases e1
    · cases e1
    · cases e1
  have hfr : room_1.frames = 2048 := rfl
  have hlo : room_1.locals = 84000 := rfl
  have hG := ps_sim_all d f 0 0 _ [] _ _ hev (R := room_1) hF (by rw [hfr]; omega) (by rw [hlo]; omega) ⟨by show h1.1.1 - 48 ≤ 600000; omega, hs⟩ (by rw [x1]; rfl) hQ
  have hl := lv_entry ([.ref b]) (n := 4) (Nat.le_of_ble_eq_true rfl)
  rw [lg_entry_eq]
  generalize (lg_sl ([.ref b]) ++ List.replicate (4 - (lg_sl ([.ref b])).length) Slot.unset).toArray = lsM at hl ⊢
  have hv0 : ps_v X (.ref 0) = .ref b := by
    show (if 0 = 40 then X.2.2.1 else .ref (ps_ad X 0) : Value) = _
    rw [if_neg (by decide), ps_ad_ro (by decide), x3]
  have hLs : ps_L X lsM (pd_mm 0).2.2.1 [.ref 0, .null, .null, .null] := ⟨_, hl, fun i v hv hn => by
    match i, hv with
    | 0, hv =>
      have hv : Value.ref 0 = v := hv
      rw [← hv, hv0]
      exact List.mem_cons_self
    | 1, hv => exact absurd (show Value.null = v from hv).symm hn
    | 2, hv => exact absurd (show Value.null = v from hv).symm hn
    | 3, hv => exact absurd (show Value.null = v from hv).symm hn
    | i + 4, hv => exact absurd (show Value.null = v from hv).symm hn⟩
  have hW : ps_W X (pe_h0 L xs) s.heap := by
    refine ⟨Nat.le_refl _, trivial, fun j q hq => ?_, fun i a b => absurd b (Nat.not_lt.mpr a), fun i a => pe_ro_ge a, fun i a => ?_⟩
    · have := (ps_ws_get hq).1
      exact absurd this (by show ¬ j < 48 - 48; omega)
    · rw [x2]
      exact ⟨rfl, rfl, rfl⟩
  have := hG.2 s.heap [] lsM 0 0 (by show 0 + (h1.1.1 - 48) = h1.1.1 - 48; omega) (by show 0 + (h1.1.2.1 - 0) = h1.1.2.1; omega) hW hLs va_S.rf
  have h0 : pd_pc 0 0 = 0 := Nat.eq_of_beq_eq_true (List.all_eq_true.mp ps_pc0 0 (List.mem_range.mpr (by decide)))
  rw [h0] at this
  exact this
