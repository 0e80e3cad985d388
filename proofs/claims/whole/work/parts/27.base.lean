/-! WHAT A METHOD DOES, in propositions about numbers: the words of the lifted rows (parts 30 to 39, by wip/whole/lift.py) -/
/-- the values that change: ints and longs by cell and slot -/
abbrev hS : Type := (Nat → Nat → Int32) × (Nat → Nat → Int64)
/-- what stays: the script's length, tent, tentDraft, nightTold, nightDraft -/
abbrev hV : Type := Nat × Nat × Nat × Nat × Nat
def vL (v : hV) : Nat := v.1
def vT (v : hV) : Nat := v.2.1
def vU (v : hV) : Nat := v.2.2.1
def vN (v : hV) : Nat := v.2.2.2.1
def vM (v : hV) : Nat := v.2.2.2.2
noncomputable def hh (v : hV) (s : hS) : pm_H := pu_hp v.1 v.2.1 v.2.2.1 v.2.2.2.1 v.2.2.2.2 s.1 s.2
def rI (s : hS) (c k : Nat) : Int32 := s.1 c k
def rL (s : hS) (c k : Nat) : Int64 := s.2 c k
def sI (s : hS) (c k : Nat) (x : Int32) : hS := (pm_up s.1 c (upd (s.1 c) k x), s.2)
def sL (s : hS) (c k : Nat) (x : Int64) : hS := (s.1, pm_up s.2 c (vp_updL (s.2 c) k x))
def sCI (s : hS) (q r sp dp n : Nat) : hS := (pm_up s.1 r (va_cpy (s.1 q) (s.1 r) sp dp n), s.2)
def sCL (s : hS) (q r sp dp n : Nat) : hS := (s.1, pm_up s.2 r (va_cpy (s.2 q) (s.2 r) sp dp n))
theorem pc_mono {d y : Nat} {as : List Value} {h : pm_H} {Q Q' : Option Value → pm_H → Prop} (g : pc d y as h Q) (hq : ∀ r h1, Q r h1 → Q' r h1) : pc d y as h Q' := ⟨g.1, pg_mono g.2 hq⟩
def pqI (v : hV) (K : Int32 → hS → Prop) (r : Option Value) (h : pm_H) : Prop := ∃ (x : Int32) (s : hS), r = some (.int x) ∧ h = hh v s ∧ K x s
def pqL (v : hV) (K : Int64 → hS → Prop) (r : Option Value) (h : pm_H) : Prop := ∃ (x : Int64) (s : hS), r = some (.long x) ∧ h = hh v s ∧ K x s
def pqR (v : hV) (K : Nat → hS → Prop) (r : Option Value) (h : pm_H) : Prop := ∃ (x : Nat) (s : hS), r = some (.ref x) ∧ h = hh v s ∧ K x s
def pqV (v : hV) (K : hS → Prop) (r : Option Value) (h : pm_H) : Prop := ∃ (s : hS), r = none ∧ h = hh v s ∧ K s
def pgI (d k i : Nat) (ls st : List Value) (v : hV) (s : hS) (K : Int32 → hS → Prop) : Prop := pg d k i ls st (hh v s) (pqI v K)
def pgL (d k i : Nat) (ls st : List Value) (v : hV) (s : hS) (K : Int64 → hS → Prop) : Prop := pg d k i ls st (hh v s) (pqL v K)
def pgR (d k i : Nat) (ls st : List Value) (v : hV) (s : hS) (K : Nat → hS → Prop) : Prop := pg d k i ls st (hh v s) (pqR v K)
def pgV (d k i : Nat) (ls st : List Value) (v : hV) (s : hS) (K : hS → Prop) : Prop := pg d k i ls st (hh v s) (pqV v K)
def pcI (d y : Nat) (as : List Value) (v : hV) (s : hS) (K : Int32 → hS → Prop) : Prop := pc d y as (hh v s) (pqI v K)
def pcL (d y : Nat) (as : List Value) (v : hV) (s : hS) (K : Int64 → hS → Prop) : Prop := pc d y as (hh v s) (pqL v K)
def pcR (d y : Nat) (as : List Value) (v : hV) (s : hS) (K : Nat → hS → Prop) : Prop := pc d y as (hh v s) (pqR v K)
def pcV (d y : Nat) (as : List Value) (v : hV) (s : hS) (K : hS → Prop) : Prop := pc d y as (hh v s) (pqV v K)
theorem pcI_k {d y : Nat} {as : List Value} {v : hV} {s : hS} {K : Int32 → hS → Prop} {Q : Option Value → pm_H → Prop} (g : pcI d y as v s K) (hq : ∀ x s1, K x s1 → Q (some (.int x)) (hh v s1)) : pc d y as (hh v s) Q := pc_mono g (by rintro r h ⟨x, s1, rfl, rfl, hk⟩; exact hq _ _ hk)
theorem pcL_k {d y : Nat} {as : List Value} {v : hV} {s : hS} {K : Int64 → hS → Prop} {Q : Option Value → pm_H → Prop} (g : pcL d y as v s K) (hq : ∀ x s1, K x s1 → Q (some (.long x)) (hh v s1)) : pc d y as (hh v s) Q := pc_mono g (by rintro r h ⟨x, s1, rfl, rfl, hk⟩; exact hq _ _ hk)
theorem pcR_k {d y : Nat} {as : List Value} {v : hV} {s : hS} {K : Nat → hS → Prop} {Q : Option Value → pm_H → Prop} (g : pcR d y as v s K) (hq : ∀ x s1, K x s1 → Q (some (.ref x)) (hh v s1)) : pc d y as (hh v s) Q := pc_mono g (by rintro r h ⟨x, s1, rfl, rfl, hk⟩; exact hq _ _ hk)
theorem pcV_k {d y : Nat} {as : List Value} {v : hV} {s : hS} {K : hS → Prop} {Q : Option Value → pm_H → Prop} (g : pcV d y as v s K) (hq : ∀ s1, K s1 → Q none (hh v s1)) : pc d y as (hh v s) Q := pc_mono g (by rintro r h ⟨s1, rfl, rfl, hk⟩; exact hq _ hk)
theorem pcI_mono {d y : Nat} {as : List Value} {v : hV} {s : hS} {K K' : Int32 → hS → Prop} (g : pcI d y as v s K) (hq : ∀ x s1, K x s1 → K' x s1) : pcI d y as v s K' := pc_mono g (by rintro r h ⟨x, s1, e1, e2, hk⟩; exact ⟨x, s1, e1, e2, hq _ _ hk⟩)
theorem pcL_mono {d y : Nat} {as : List Value} {v : hV} {s : hS} {K K' : Int64 → hS → Prop} (g : pcL d y as v s K) (hq : ∀ x s1, K x s1 → K' x s1) : pcL d y as v s K' := pc_mono g (by rintro r h ⟨x, s1, e1, e2, hk⟩; exact ⟨x, s1, e1, e2, hq _ _ hk⟩)
theorem pcR_mono {d y : Nat} {as : List Value} {v : hV} {s : hS} {K K' : Nat → hS → Prop} (g : pcR d y as v s K) (hq : ∀ x s1, K x s1 → K' x s1) : pcR d y as v s K' := pc_mono g (by rintro r h ⟨x, s1, e1, e2, hk⟩; exact ⟨x, s1, e1, e2, hq _ _ hk⟩)
theorem pcV_mono {d y : Nat} {as : List Value} {v : hV} {s : hS} {K K' : hS → Prop} (g : pcV d y as v s K) (hq : ∀ s1, K s1 → K' s1) : pcV d y as v s K' := pc_mono g (by rintro r h ⟨s1, e1, e2, hk⟩; exact ⟨s1, e1, e2, hq _ hk⟩)
theorem pgI_mono {d k i : Nat} {ls st : List Value} {v : hV} {s : hS} {K K' : Int32 → hS → Prop} (g : pgI d k i ls st v s K) (hq : ∀ x s1, K x s1 → K' x s1) : pgI d k i ls st v s K' := pg_mono g (by rintro r h ⟨x, s1, e1, e2, hk⟩; exact ⟨x, s1, e1, e2, hq _ _ hk⟩)
theorem pz_lt {x y : Int32} : x < y ↔ x.toInt < y.toInt := Int32.lt_iff_toInt_lt
theorem pz_eq {x y : Int32} : x = y ↔ x.toInt = y.toInt := Int32.toInt_inj.symm
theorem lg_lt (x y : Int64) : lg_cmp x y < 0 ↔ x.toInt < y.toInt := by
  unfold lg_cmp
  by_cases h : x > y
  · rw [if_pos h]
    have h1 : y.toInt < x.toInt := Int64.lt_iff_toInt_lt.mp h
    exact ⟨fun z => absurd z (by decide), fun z => by omega⟩
  · rw [if_neg h]
    have h1 : ¬ y.toInt < x.toInt := fun z => h (Int64.lt_iff_toInt_lt.mpr z)
    by_cases h2 : x = y
    · rw [if_pos h2]
      subst h2
      exact ⟨fun z => absurd z (by decide), fun z => by omega⟩
    · rw [if_neg h2]
      have h3 : x.toInt ≠ y.toInt := fun z => h2 (Int64.toInt_inj.mp z)
      exact ⟨fun _ => by omega, fun _ => by decide⟩
theorem lg_gt (x y : Int64) : 0 < lg_cmp x y ↔ y.toInt < x.toInt := by
  unfold lg_cmp
  by_cases h : x > y
  · rw [if_pos h]
    exact ⟨fun _ => Int64.lt_iff_toInt_lt.mp h, fun _ => by decide⟩
  · rw [if_neg h]
    have h1 : ¬ y.toInt < x.toInt := fun z => h (Int64.lt_iff_toInt_lt.mpr z)
    by_cases h2 : x = y
    · rw [if_pos h2]
      exact ⟨fun z => absurd z (by decide), fun z => absurd z h1⟩
    · rw [if_neg h2]
      exact ⟨fun z => absurd z (by decide), fun z => absurd z h1⟩
theorem lg_eq (x y : Int64) : lg_cmp x y = 0 ↔ x.toInt = y.toInt := by
  unfold lg_cmp
  by_cases h : x > y
  · rw [if_pos h]
    have h1 : y.toInt < x.toInt := Int64.lt_iff_toInt_lt.mp h
    exact ⟨fun z => absurd z (by decide), fun z => by omega⟩
  · rw [if_neg h]
    by_cases h2 : x = y
    · rw [if_pos h2]
      subst h2
      exact ⟨fun _ => rfl, fun _ => rfl⟩
    · rw [if_neg h2]
      have h3 : x.toInt ≠ y.toInt := fun z => h2 (Int64.toInt_inj.mp z)
      exact ⟨fun z => absurd z (by decide), fun z => absurd z h3⟩
theorem pz_in {j : Int32} {n : Nat} (h : 0 ≤ j.toInt ∧ j.toInt < n) : pm_inb j n = true := by
  have e : j.toNatClampNeg = j.toInt.toNat := rfl
  rw [pm_inb, Bool.and_eq_true, decide_eq_true_iff, decide_eq_true_iff, Int32.le_iff_toInt_le, e]
  exact ⟨h.1, by omega⟩
theorem pz_inb {j : Int32} {n : Nat} (h : 0 ≤ j.toInt ∧ j.toInt < n) : (true && pm_inb j n) = true := pz_in h
theorem pz_inbS {j : Int32} {n : Nat} (h : 0 ≤ j.toInt ∧ j.toInt < n) : (true && (true && pm_inb j n)) = true := pz_in h
theorem pz_okr {x : Int32} (h : x.toInt = 0 ∨ x.toInt = 1) : pm_okz 1 x = true := by
  have h0 : x = 0 ∨ x = 1 := h.imp (fun z => Int32.toInt_inj.mp z) (fun z => Int32.toInt_inj.mp z)
  rcases h0 with rfl | rfl <;> rfl
theorem pz_ok2 {x : Int32} (h : 0 ≤ x.toInt ∧ x.toInt ≤ 65535) : pm_okz 2 x = true := by
  show (decide (0 ≤ x) && decide (x ≤ 65535)) = true
  rw [Bool.and_eq_true, decide_eq_true_iff, decide_eq_true_iff, Int32.le_iff_toInt_le, Int32.le_iff_toInt_le]
  exact h
theorem pz_ok3 {x : Int32} (h : -128 ≤ x.toInt ∧ x.toInt ≤ 127) : pm_okz 3 x = true := by
  show (decide (-128 ≤ x) && decide (x ≤ 127)) = true
  rw [Bool.and_eq_true, decide_eq_true_iff, decide_eq_true_iff, Int32.le_iff_toInt_le, Int32.le_iff_toInt_le]
  exact h
theorem pz_ok1 {x : Int32} (h : x.toInt = 0 ∨ x.toInt = 1) : (true && (true && (true && pm_okz 1 x))) = true := pz_okr h
theorem pz_inb1 {j x : Int32} {n : Nat} (h : (0 ≤ j.toInt ∧ j.toInt < n) ∧ (x.toInt = 0 ∨ x.toInt = 1)) : (true && (true && (pm_inb j n && pm_okz 1 x))) = true := by
  rw [pz_in h.1, pz_okr h.2]; rfl
theorem pz_inbT {j : Int32} {n : Nat} (h : 0 ≤ j.toInt ∧ j.toInt < n) : (true && (true && (pm_inb j n && true))) = true := by
  rw [pz_in h]; rfl
theorem pz_nei {y : Int32} (h : y.toInt ≠ 0) : (!(y == 0)) = true := by
  have : y ≠ 0 := fun z => h (by rw [z]; rfl)
  simp [this]
theorem pz_nel {y : Int64} (h : y.toInt ≠ 0) : (!(y == 0)) = true := by
  have : y ≠ 0 := fun z => h (by rw [z]; rfl)
  simp [this]
theorem pg_rz {d k i n : Nat} {ls st : List Value} {h h1 : pm_H} {r : Option Value} {b : Bool} {Q : Option Value → pm_H → Prop} (e : ∀ cl f, pm_run (pd_i k) cl (f + n) i ls st h = pm_go b (some (r, h1)) none) (hb : b = true) (g : Q r h1) : pg d k i ls st h Q := pg_ret (n := n) (fun cl f => by rw [e, hb]; rfl) g
theorem pg_one {d k i i2 : Nat} {ls st ls2 st2 : List Value} {h h2 : pm_H} {Q : Option Value → pm_H → Prop} {q : pm_I} (hq : pd_i k i = q) (e : ∀ (kk : pm_K) (call : Nat → List Value → pm_H → pm_R), pm_sem q.1 q.2.1 q.2.2.1 q.2.2.2.1 q.2.2.2.2.1 q.2.2.2.2.2 i kk call ls st h = kk i2 ls2 st2 h2) (g : pg d k i2 ls2 st2 h2 Q) : pg d k i ls st h Q := pg_st (n := 1) (fun cl f => by
    show pm_sem (pd_i k i).1 (pd_i k i).2.1 (pd_i k i).2.2.1 (pd_i k i).2.2.2.1 (pd_i k i).2.2.2.2.1 (pd_i k i).2.2.2.2.2 i (pm_run (pd_i k) cl f) (cl f) ls st h = _
    rw [hq]; exact e _ _) g
theorem pg_swt {d k i ia n m : Nat} {ls st ls2 st2 : List Value} {h h2 : pm_H} {Q : Option Value → pm_H → Prop} {x : Int32} {lo hi : Int} {tg : List Nat} (e : ∀ cl f, pm_run (pd_i k) cl (f + n) i ls st h = if x.toInt < lo ∨ hi < x.toInt then pm_run (pd_i k) cl f ia ls2 st2 h2 else pm_run (pd_i k) cl f (pm_at 0 tg (x.toInt - lo).toNat) ls2 st2 h2) (hm : hi - lo + 1 = m) (gd : (x.toInt < lo ∨ hi < x.toInt) → pg d k ia ls2 st2 h2 Q) (ga : ∀ j : Nat, j < m → x.toInt = lo + j → pg d k (pm_at 0 tg j) ls2 st2 h2 Q) : pg d k i ls st h Q := by
  refine pg_if (n := n) e gd (fun c => ?_)
  have c1 : ¬ x.toInt < lo := fun z => c (Or.inl z)
  have c2 : ¬ hi < x.toInt := fun z => c (Or.inr z)
  exact ga _ (by omega) (by omega)
theorem pg_lk2 {d k i i0 i1 ia n : Nat} {ls st ls2 st2 : List Value} {h h2 : pm_H} {Q : Option Value → pm_H → Prop} {x : Int32} {p0 p1 : Int} (e : ∀ cl f, pm_run (pd_i k) cl (f + n) i ls st h = if x.toInt = p0 then pm_run (pd_i k) cl f i0 ls2 st2 h2 else if x.toInt = p1 then pm_run (pd_i k) cl f i1 ls2 st2 h2 else pm_run (pd_i k) cl f ia ls2 st2 h2) (g0 : x.toInt = p0 → pg d k i0 ls2 st2 h2 Q) (g1 : x.toInt = p1 → pg d k i1 ls2 st2 h2 Q) (gd : ¬ (x.toInt = p0 ∨ x.toInt = p1) → pg d k ia ls2 st2 h2 Q) : pg d k i ls st h Q := by
  by_cases c0 : x.toInt = p0
  · exact pg_st (n := n) (fun cl f => (e cl f).trans (if_pos c0)) (g0 c0)
  · by_cases c1 : x.toInt = p1
    · exact pg_st (n := n) (fun cl f => (e cl f).trans ((if_neg c0).trans (if_pos c1))) (g1 c1)
    · exact pg_st (n := n) (fun cl f => (e cl f).trans ((if_neg c0).trans (if_neg c1))) (gd (fun z => z.elim c0 c1))
theorem pg_aa {d k i i2 n m : Nat} {ls st ls2 st2 : List Value} {h h2 : pm_H} {Q : Option Value → pm_H → Prop} {j : Int32} {R : Nat → Option Nat} (e : ∀ cl f, pm_run (pd_i k) cl (f + n) i ls st h = pm_go (true && pm_inb j m) (pm_ldr (R j.toNatClampNeg) (fun w => pm_run (pd_i k) cl f i2 ls2 (w :: st2) h2)) none) (hj : 0 ≤ j.toInt ∧ j.toInt < m) (g : ∀ q : Nat, q < m → j.toInt = q → ∃ r, R q = some r ∧ r ≠ 40 ∧ pg d k i2 ls2 (.ref r :: st2) h2 Q) : pg d k i ls st h Q := by
  obtain ⟨r, h1, h2, h3⟩ := g j.toInt.toNat (by omega) (by omega)
  have e0 : j.toNatClampNeg = j.toInt.toNat := rfl
  have e1 : Nat.beq r 40 = false := by
    cases hb : Nat.beq r 40 with
    | false => rfl
    | true => exact absurd (Nat.eq_of_beq_eq_true hb) h2
  refine pg_st (n := n) (fun cl f => ?_) h3
  rw [e, pz_inb hj, e0, h1]
  show pm_go (!(Nat.beq r 40)) _ none = _
  rw [e1]; rfl
def kT (x : Nat) : Prop := x = 51 ∨ x = 66
def kN (x : Nat) : Prop := x = 81 ∨ x = 86
def kR (x : Nat) : Prop := x = 54 ∨ x = 60 ∨ x = 69 ∨ x = 75
def kA (x : Nat) : Prop := x = 92 ∨ x = 99
def kB (x : Nat) : Prop := x = 92 ∨ x = 99 ∨ x = 137 ∨ x = 141
def kU (x : Nat) : Prop := x = 133 ∨ x = 134 ∨ x = 135 ∨ x = 136
def kG (x : Nat) : Prop := x = 104 ∨ x = 108
def kQ (x : Nat) : Prop := x = 93 ∨ x = 94 ∨ x = 100 ∨ x = 101
def kP (x : Nat) : Prop := x = 6 ∨ x = 7
def kW (x : Nat) : Prop := x = 8 ∨ x = 9 ∨ x = 10 ∨ x = 11 ∨ x = 12 ∨ x = 13 ∨ x = 14 ∨ x = 15 ∨ x = 16 ∨ x = 17 ∨ x = 18 ∨ x = 19 ∨ x = 20 ∨ x = 21 ∨ x = 22 ∨ x = 23
