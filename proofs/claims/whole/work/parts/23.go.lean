/-! HOW THE PURE MACHINE IS WALKED -/
/-- the calls of a frame that may go d deep -/
noncomputable def pg_cl : Nat → Nat → Nat → List Value → pm_H → pm_R
  | 0 => fun _ _ _ _ => none
  | d + 1 => fun n y as h => pm_go (Nat.ble (pm_args as).length (pd_P.2 y)) (pm_ev pd_P d n y 0 (pm_pad (pd_P.2 y) (pm_args as)) [] h) none
theorem pm_ev_run (d f k : Nat) : pm_ev pd_P d f k = pm_run (pd_i k) (pg_cl d) f := by
  cases d <;> rfl
/-- the run of method k from instruction i comes to an end, with Q -/
def pg (d k i : Nat) (ls st : List Value) (h : pm_H) (Q : Option Value → pm_H → Prop) : Prop := ∃ (f0 : Nat) (r : Option Value) (h1 : pm_H), (∀ f, f0 ≤ f → pm_run (pd_i k) (pg_cl d) f i ls st h = some (r, h1)) ∧ Q r h1
theorem pg_st {d k i i2 n : Nat} {ls st ls2 st2 : List Value} {h h2 : pm_H} {Q : Option Value → pm_H → Prop} (e : ∀ cl f, pm_run (pd_i k) cl (f + n) i ls st h = pm_run (pd_i k) cl f i2 ls2 st2 h2) (g : pg d k i2 ls2 st2 h2 Q) : pg d k i ls st h Q := by
  obtain ⟨f0, r, h1, g1, g2⟩ := g
  refine ⟨f0 + n, r, h1, fun f hf => ?_, g2⟩
  obtain ⟨j, rfl⟩ : ∃ j, f = j + n := ⟨f - n, by omega⟩
  rw [e]
  exact g1 j (by omega)
theorem pg_if {d k i i2 i3 n : Nat} {ls st ls2 st2 ls3 st3 : List Value} {h h2 h3 : pm_H} {Q : Option Value → pm_H → Prop} {c : Prop} {_ : Decidable c} (e : ∀ cl f, pm_run (pd_i k) cl (f + n) i ls st h = if c then pm_run (pd_i k) cl f i2 ls2 st2 h2 else pm_run (pd_i k) cl f i3 ls3 st3 h3) (g2 : c → pg d k i2 ls2 st2 h2 Q) (g3 : ¬ c → pg d k i3 ls3 st3 h3 Q) : pg d k i ls st h Q := by
  by_cases hc : c
  · exact pg_st (n := n) (fun cl f => (e cl f).trans (if_pos hc)) (g2 hc)
  · exact pg_st (n := n) (fun cl f => (e cl f).trans (if_neg hc)) (g3 hc)
theorem pg_go {d k i i2 n : Nat} {ls st ls2 st2 : List Value} {h h2 : pm_H} {Q : Option Value → pm_H → Prop} {b : Bool} (e : ∀ cl f, pm_run (pd_i k) cl (f + n) i ls st h = pm_go b (pm_run (pd_i k) cl f i2 ls2 st2 h2) none) (hb : b = true) (g : pg d k i2 ls2 st2 h2 Q) : pg d k i ls st h Q := pg_st (n := n) (fun cl f => by rw [e, hb]; rfl) g
theorem pg_ret {d k i n : Nat} {ls st : List Value} {h h1 : pm_H} {r : Option Value} {Q : Option Value → pm_H → Prop} (e : ∀ cl f, pm_run (pd_i k) cl (f + n) i ls st h = some (r, h1)) (g : Q r h1) : pg d k i ls st h Q := by
  refine ⟨n, r, h1, fun f hf => ?_, g⟩
  obtain ⟨j, rfl⟩ : ∃ j, f = j + n := ⟨f - n, by omega⟩
  exact e _ j
theorem pg_mono {d k i : Nat} {ls st : List Value} {h : pm_H} {Q Q' : Option Value → pm_H → Prop} (g : pg d k i ls st h Q) (hq : ∀ r h1, Q r h1 → Q' r h1) : pg d k i ls st h Q' := by
  obtain ⟨f0, r, h1, g1, g2⟩ := g
  exact ⟨f0, r, h1, g1, hq r h1 g2⟩
/-- a call of method y comes to its end, with Q -/
def pc (d y : Nat) (as : List Value) (h : pm_H) (Q : Option Value → pm_H → Prop) : Prop := (pm_args as).length ≤ (pd_mm y).2.2.1 ∧ pg d y 0 (pm_pad (pd_mm y).2.2.1 (pm_args as)) [] h Q
theorem pg_call {d k i i2 n y : Nat} {ls st ls2 rest as : List Value} {h h2 : pm_H} {Q : Option Value → pm_H → Prop} (e : ∀ cl f, pm_run (pd_i k) cl (f + n) i ls st h = match cl f y as h2 with
      | some (r, h') => pm_run (pd_i k) cl f i2 ls2 (pm_ret r rest) h'
      | none => none) (g : pc d y as h2 (fun r h' => pg (d + 1) k i2 ls2 (pm_ret r rest) h' Q)) : pg (d + 1) k i ls st h Q := by
  obtain ⟨hl, f0, r, h1, g1, f2, r2, h3, g2, g3⟩ := g
  refine ⟨(f0 + f2) + n, r2, h3, fun f hf => ?_, g3⟩
  obtain ⟨j, rfl⟩ : ∃ j, f = j + n := ⟨f - n, by omega⟩
  rw [e]
  have hc : pg_cl (d + 1) j y as h2 = some (r, h1) := by
    show pm_go (Nat.ble (pm_args as).length (pd_mm y).2.2.1) (pm_ev pd_P d j y 0 (pm_pad (pd_mm y).2.2.1 (pm_args as)) [] h2) none = _
    rw [Nat.ble_eq_true_of_le hl, pm_ev_run]
    exact g1 j (by omega)
  rw [hc]
  exact g2 j (by omega)
