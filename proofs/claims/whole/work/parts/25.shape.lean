/-! THE HEAP AT THE LAW'S LOOP, as tables -/
abbrev pu_It (α : Type) : Type := Nat × (List α ⊕ Nat × α)
def pu_fd {α : Type} (z : α) : List (pu_It α) → (Nat → Nat → α) → Nat → Nat → α
  | [], f => f
  | (c, .inl row) :: l, f => pm_up (pu_fd z l f) c (fun s => row.getD s z)
  | (c, .inr (k, x)) :: l, f => pm_up (pu_fd z l f) c (va_up (pu_fd z l f c) k x)
def pu_rd {α : Type} (z : α) : List (pu_It α) → Nat → Option α
  | [], _ => none
  | (_, .inl row) :: _, s => some (row.getD s z)
  | (_, .inr (k, x)) :: l, s => if k = s then some x else pu_rd z l s
def pu_of {α : Type} (l : List (pu_It α)) (c : Nat) : List (pu_It α) := l.filter fun p => Nat.beq p.1 c
theorem pu_fd_rd {α : Type} (z : α) (l : List (pu_It α)) (f : Nat → Nat → α) (c s : Nat) : pu_fd z l f c s = (pu_rd z (pu_of l c) s).getD (f c s) := by
  induction l with
  | nil => rfl
  | cons p l ih =>
    obtain ⟨c1, q⟩ := p
    by_cases hc : c = c1
    · subst hc
      have h0 : pu_of ((c, q) :: l) c = (c, q) :: pu_of l c := by simp [pu_of]
      rw [h0]
      cases q with
      | inl row => simp [pu_fd, pu_rd, pm_up]
      | inr q =>
        obtain ⟨k, x⟩ := q
        by_cases hk : s = k
        · subst hk; simp [pu_fd, pu_rd, pm_up, va_up]
        · have hk2 : ¬ k = s := fun e => hk e.symm
          simp only [pu_fd, pu_rd, pm_up, va_up, if_neg hk, if_neg hk2, ↓reduceIte]
          exact ih
    · have hc2 : Nat.beq c1 c = false := by
        cases e : Nat.beq c1 c with
        | false => rfl
        | true => exact absurd (Nat.eq_of_beq_eq_true e).symm hc
      have h0 : pu_of ((c1, q) :: l) c = pu_of l c := by simp [pu_of, hc2]
      rw [h0, ← ih]
      cases q with
      | inl row => simp [pu_fd, pm_up, hc]
      | inr q => simp [pu_fd, pm_up, hc]
theorem pu_fd_app {α : Type} (z : α) (a b : List (pu_It α)) (f : Nat → Nat → α) : pu_fd z (a ++ b) f = pu_fd z a (pu_fd z b f) := by
  induction a with
  | nil => rfl
  | cons p a ih =>
    obtain ⟨c, q⟩ := p
    cases q with
    | inl row => show pm_up (pu_fd z (a ++ b) f) _ _ = pm_up _ _ _; rw [ih]
    | inr q => show pm_up (pu_fd z (a ++ b) f) _ (va_up (pu_fd z (a ++ b) f c) _ _) = pm_up _ _ _; rw [ih]
def pu_nr {α : Type} (n : Nat) : pu_It α → Bool
  | (_, .inl row) => Nat.ble row.length n
  | (_, .inr (k, _)) => Nat.blt k n
theorem pu_rd_far {α : Type} (z : α) (n s : Nat) (hs : n ≤ s) (l : List (pu_It α)) (hl : l.all (pu_nr n) = true) : (pu_rd z l s).getD z = z := by
  induction l with
  | nil => rfl
  | cons p l ih =>
    obtain ⟨c, q⟩ := p
    rw [List.all_cons, Bool.and_eq_true] at hl
    cases q with
    | inl row =>
      have := Nat.le_of_ble_eq_true hl.1
      show (some (row.getD s z)).getD z = z
      rw [Option.getD_some, List.getD_eq_getElem?_getD, List.getElem?_eq_none (by omega)]; rfl
    | inr q =>
      obtain ⟨k, x⟩ := q
      have : k < n := Nat.le_of_ble_eq_true hl.1
      show (if k = s then some x else pu_rd z l s).getD z = z
      rw [if_neg (by omega)]
      exact ih hl.2
theorem pm_at_far {α : Type} (z : α) (l : List α) : ∀ i, l.length ≤ i → pm_at z l i = z := by
  induction l with
  | nil => intro i _; rfl
  | cons a l ih =>
    intro i hi
    cases i with
    | zero => simp at hi
    | succ i => exact ih i (by simpa using hi)
theorem pu_all_of {α : Type} (l : List (pu_It α)) (c n : Nat) (hl : l.all (pu_nr n) = true) : (pu_of l c).all (pu_nr n) = true := by
  rw [List.all_eq_true] at hl ⊢
  intro p hp
  exact hl p (List.mem_filter.mp hp).1
/-- a chain of stores is its table -/
theorem pu_fd_tab {α : Type} [BEq α] [LawfulBEq α] (z : α) (l : List (pu_It α)) (T : Nat → List α) (m n : Nat) (h1 : l.all (pu_nr n) = true) (h2 : ∀ c, m ≤ c → T c = []) (h3 : l.all (fun p => Nat.blt p.1 m) = true) (h4 : ((List.range m).all fun c => Nat.blt c 48 || (Nat.ble (T c).length n && (List.range n).all fun s => (pu_rd z (pu_of l c) s).getD z == pm_at z (T c) s)) = true) (f : Nat → Nat → α) (hf : ∀ c s, 48 ≤ c → f c s = z) (c s : Nat) (hc : 48 ≤ c) : pu_fd z l f c s = pm_at z (T c) s := by
  rw [pu_fd_rd, hf c s hc]
  by_cases hm : c < m
  · have h5 := List.all_eq_true.mp h4 c (List.mem_range.mpr hm)
    have h6 : Nat.blt c 48 = false := by
      cases e : Nat.blt c 48 with
      | false => rfl
      | true => exact absurd (Nat.le_of_ble_eq_true e) (by omega)
    rw [h6, Bool.false_or, Bool.and_eq_true] at h5
    by_cases hs : s < n
    · exact eq_of_beq (List.all_eq_true.mp h5.2 s (List.mem_range.mpr hs))
    · rw [pu_rd_far z n s (by omega) _ (pu_all_of l c n h1), pm_at_far z _ s (by have := Nat.le_of_ble_eq_true h5.1; omega)]
  · rw [h2 c (by omega)]
    have h7 : pu_of l c = [] := by
      rw [pu_of, List.filter_eq_nil_iff]
      intro p hp e
      have := Nat.eq_of_beq_eq_true e
      have : p.1 < m := Nat.le_of_ble_eq_true (List.all_eq_true.mp h3 p hp)
      omega
    rw [h7]; rfl
def pu_fk {α : Type} : List (Nat × α) → (Nat → α) → Nat → α
  | [], f => f
  | (c, q) :: l, f => pm_up (pu_fk l f) c q
theorem pu_fk_app {α : Type} (a b : List (Nat × α)) (f : Nat → α) : pu_fk (a ++ b) f = pu_fk a (pu_fk b f) := by
  induction a with
  | nil => rfl
  | cons p a ih => obtain ⟨c, q⟩ := p; show pm_up (pu_fk (a ++ b) f) _ _ = pm_up _ _ _; rw [ih]
def pu_fl {α : Type} (z : α) : List (Nat × α) → Nat → α
  | [], _ => z
  | (c1, q) :: l, c => if Nat.beq c c1 then q else pu_fl z l c
theorem pu_fk_fl {α : Type} (z : α) (l : List (Nat × α)) (f : Nat → α) (c : Nat) (hf : f c = z) : pu_fk l f c = pu_fl z l c := by
  induction l with
  | nil => exact hf
  | cons p l ih =>
    obtain ⟨c1, q⟩ := p
    show (if c = c1 then q else pu_fk l f c) = (if Nat.beq c c1 then q else pu_fl z l c)
    by_cases e : c = c1
    · subst e; simp
    · have : Nat.beq c c1 = false := by
        cases e2 : Nat.beq c c1 with
        | false => rfl
        | true => exact absurd (Nat.eq_of_beq_eq_true e2) e
      rw [if_neg e, this, ih]; rfl
def pu_oI0 : List (pu_It Int32) := []
theorem pu_eI0 (L : Nat) (xs : Nat → Int32) : (pu_s0 L xs).2.1 = pu_fd 0 pu_oI0 (pe_h0 L xs).2.1 := rfl
def pu_oI1 : List (pu_It Int32) := [(48, .inl [])] ++ pu_oI0
set_option maxRecDepth 100000 in
theorem pu_eI1 (L : Nat) (xs : Nat → Int32) : (pu_s1 L xs).2.1 = pu_fd 0 pu_oI1 (pe_h0 L xs).2.1 := (show (pu_s1 L xs).2.1 = pu_fd 0 [(48, .inl [])] (pu_s0 L xs).2.1 from rfl).trans ((congrArg (pu_fd 0 [(48, .inl [])]) (pu_eI0 L xs)).trans (pu_fd_app 0 [(48, .inl [])] pu_oI0 _).symm)
def pu_oI2 : List (pu_It Int32) := [(49, .inl [])] ++ pu_oI1
set_option maxRecDepth 100000 in
theorem pu_eI2 (L : Nat) (xs : Nat → Int32) : (pu_s2 L xs).2.1 = pu_fd 0 pu_oI2 (pe_h0 L xs).2.1 := (show (pu_s2 L xs).2.1 = pu_fd 0 [(49, .inl [])] (pu_s1 L xs).2.1 from rfl).trans ((congrArg (pu_fd 0 [(49, .inl [])]) (pu_eI1 L xs)).trans (pu_fd_app 0 [(49, .inl [])] pu_oI1 _).symm)
def pu_oI3 : List (pu_It Int32) := [(49, .inr (4, (-1))), (49, .inr (3, 0)), (49, .inr (2, 0)), (49, .inr (1, 0)), (50, .inl [])] ++ pu_oI2
set_option maxRecDepth 100000 in
theorem pu_eI3 (L : Nat) (xs : Nat → Int32) : (pu_s3 L xs).2.1 = pu_fd 0 pu_oI3 (pe_h0 L xs).2.1 := (show (pu_s3 L xs).2.1 = pu_fd 0 [(49, .inr (4, (-1))), (49, .inr (3, 0)), (49, .inr (2, 0)), (49, .inr (1, 0)), (50, .inl [])] (pu_s2 L xs).2.1 from rfl).trans ((congrArg (pu_fd 0 [(49, .inr (4, (-1))), (49, .inr (3, 0)), (49, .inr (2, 0)), (49, .inr (1, 0)), (50, .inl [])]) (pu_eI2 L xs)).trans (pu_fd_app 0 [(49, .inr (4, (-1))), (49, .inr (3, 0)), (49, .inr (2, 0)), (49, .inr (1, 0)), (50, .inl [])] pu_oI2 _).symm)
def pu_oI4 : List (pu_It Int32) := [(51, .inl [])] ++ pu_oI3
set_option maxRecDepth 100000 in
theorem pu_eI4 (L : Nat) (xs : Nat → Int32) : (pu_s4 L xs).2.1 = pu_fd 0 pu_oI4 (pe_h0 L xs).2.1 := (show (pu_s4 L xs).2.1 = pu_fd 0 [(51, .inl [])] (pu_s3 L xs).2.1 from rfl).trans ((congrArg (pu_fd 0 [(51, .inl [])]) (pu_eI3 L xs)).trans (pu_fd_app 0 [(51, .inl [])] pu_oI3 _).symm)
def pu_oI5 : List (pu_It Int32) := [(54, .inl []), (53, .inl []), (52, .inl (pd_tab 1))] ++ pu_oI4
set_option maxRecDepth 100000 in
theorem pu_eI5 (L : Nat) (xs : Nat → Int32) : (pu_s5 L xs).2.1 = pu_fd 0 pu_oI5 (pe_h0 L xs).2.1 := (show (pu_s5 L xs).2.1 = pu_fd 0 [(54, .inl []), (53, .inl []), (52, .inl (pd_tab 1))] (pu_s4 L xs).2.1 from rfl).trans ((congrArg (pu_fd 0 [(54, .inl []), (53, .inl []), (52, .inl (pd_tab 1))]) (pu_eI4 L xs)).trans (pu_fd_app 0 [(54, .inl []), (53, .inl []), (52, .inl (pd_tab 1))] pu_oI4 _).symm)
def pu_oI6 : List (pu_It Int32) := [(58, .inl []), (57, .inl []), (54, .inr (2, 0)), (56, .inl []), (55, .inl [])] ++ pu_oI5
set_option maxRecDepth 100000 in
theorem pu_eI6 (L : Nat) (xs : Nat → Int32) : (pu_s6 L xs).2.1 = pu_fd 0 pu_oI6 (pe_h0 L xs).2.1 := (show (pu_s6 L xs).2.1 = pu_fd 0 [(58, .inl []), (57, .inl []), (54, .inr (2, 0)), (56, .inl []), (55, .inl [])] (pu_s5 L xs).2.1 from rfl).trans ((congrArg (pu_fd 0 [(58, .inl []), (57, .inl []), (54, .inr (2, 0)), (56, .inl []), (55, .inl [])]) (pu_eI5 L xs)).trans (pu_fd_app 0 [(58, .inl []), (57, .inl []), (54, .inr (2, 0)), (56, .inl []), (55, .inl [])] pu_oI5 _).symm)
def pu_oI7 : List (pu_It Int32) := [(54, .inr (6, 0)), (59, .inl [])] ++ pu_oI6
set_option maxRecDepth 100000 in
theorem pu_eI7 (L : Nat) (xs : Nat → Int32) : (pu_s7 L xs).2.1 = pu_fd 0 pu_oI7 (pe_h0 L xs).2.1 := (show (pu_s7 L xs).2.1 = pu_fd 0 [(54, .inr (6, 0)), (59, .inl [])] (pu_s6 L xs).2.1 from rfl).trans ((congrArg (pu_fd 0 [(54, .inr (6, 0)), (59, .inl [])]) (pu_eI6 L xs)).trans (pu_fd_app 0 [(54, .inr (6, 0)), (59, .inl [])] pu_oI6 _).symm)
def pu_oI8 : List (pu_It Int32) := [(60, .inl [])] ++ pu_oI7
set_option maxRecDepth 100000 in
theorem pu_eI8 (L : Nat) (xs : Nat → Int32) : (pu_s8 L xs).2.1 = pu_fd 0 pu_oI8 (pe_h0 L xs).2.1 := (show (pu_s8 L xs).2.1 = pu_fd 0 [(60, .inl [])] (pu_s7 L xs).2.1 from rfl).trans ((congrArg (pu_fd 0 [(60, .inl [])]) (pu_eI7 L xs)).trans (pu_fd_app 0 [(60, .inl [])] pu_oI7 _).symm)
def pu_oI9 : List (pu_It Int32) := [(64, .inl []), (63, .inl []), (60, .inr (2, 0)), (62, .inl []), (61, .inl [])] ++ pu_oI8
set_option maxRecDepth 100000 in
theorem pu_eI9 (L : Nat) (xs : Nat → Int32) : (pu_s9 L xs).2.1 = pu_fd 0 pu_oI9 (pe_h0 L xs).2.1 := (show (pu_s9 L xs).2.1 = pu_fd 0 [(64, .inl []), (63, .inl []), (60, .inr (2, 0)), (62, .inl []), (61, .inl [])] (pu_s8 L xs).2.1 from rfl).trans ((congrArg (pu_fd 0 [(64, .inl []), (63, .inl []), (60, .inr (2, 0)), (62, .inl []), (61, .inl [])]) (pu_eI8 L xs)).trans (pu_fd_app 0 [(64, .inl []), (63, .inl []), (60, .inr (2, 0)), (62, .inl []), (61, .inl [])] pu_oI8 _).symm)
def pu_oI10 : List (pu_It Int32) := [(60, .inr (6, 0)), (65, .inl [])] ++ pu_oI9
set_option maxRecDepth 100000 in
theorem pu_eI10 (L : Nat) (xs : Nat → Int32) : (pu_s10 L xs).2.1 = pu_fd 0 pu_oI10 (pe_h0 L xs).2.1 := (show (pu_s10 L xs).2.1 = pu_fd 0 [(60, .inr (6, 0)), (65, .inl [])] (pu_s9 L xs).2.1 from rfl).trans ((congrArg (pu_fd 0 [(60, .inr (6, 0)), (65, .inl [])]) (pu_eI9 L xs)).trans (pu_fd_app 0 [(60, .inr (6, 0)), (65, .inl [])] pu_oI9 _).symm)
def pu_oI11 : List (pu_It Int32) := [] ++ pu_oI10
set_option maxRecDepth 100000 in
theorem pu_eI11 (L : Nat) (xs : Nat → Int32) : (pu_s11 L xs).2.1 = pu_fd 0 pu_oI11 (pe_h0 L xs).2.1 := (show (pu_s11 L xs).2.1 = pu_fd 0 [] (pu_s10 L xs).2.1 from rfl).trans ((congrArg (pu_fd 0 []) (pu_eI10 L xs)).trans (pu_fd_app 0 [] pu_oI10 _).symm)
def pu_oI12 : List (pu_It Int32) := [(66, .inl [])] ++ pu_oI11
set_option maxRecDepth 100000 in
theorem pu_eI12 (L : Nat) (xs : Nat → Int32) : (pu_s12 L xs).2.1 = pu_fd 0 pu_oI12 (pe_h0 L xs).2.1 := (show (pu_s12 L xs).2.1 = pu_fd 0 [(66, .inl [])] (pu_s11 L xs).2.1 from rfl).trans ((congrArg (pu_fd 0 [(66, .inl [])]) (pu_eI11 L xs)).trans (pu_fd_app 0 [(66, .inl [])] pu_oI11 _).symm)
def pu_oI13 : List (pu_It Int32) := [(69, .inl []), (68, .inl []), (67, .inl (pd_tab 1))] ++ pu_oI12
set_option maxRecDepth 100000 in
theorem pu_eI13 (L : Nat) (xs : Nat → Int32) : (pu_s13 L xs).2.1 = pu_fd 0 pu_oI13 (pe_h0 L xs).2.1 := (show (pu_s13 L xs).2.1 = pu_fd 0 [(69, .inl []), (68, .inl []), (67, .inl (pd_tab 1))] (pu_s12 L xs).2.1 from rfl).trans ((congrArg (pu_fd 0 [(69, .inl []), (68, .inl []), (67, .inl (pd_tab 1))]) (pu_eI12 L xs)).trans (pu_fd_app 0 [(69, .inl []), (68, .inl []), (67, .inl (pd_tab 1))] pu_oI12 _).symm)
def pu_oI14 : List (pu_It Int32) := [(73, .inl []), (72, .inl []), (69, .inr (2, 0)), (71, .inl []), (70, .inl [])] ++ pu_oI13
set_option maxRecDepth 100000 in
theorem pu_eI14 (L : Nat) (xs : Nat → Int32) : (pu_s14 L xs).2.1 = pu_fd 0 pu_oI14 (pe_h0 L xs).2.1 := (show (pu_s14 L xs).2.1 = pu_fd 0 [(73, .inl []), (72, .inl []), (69, .inr (2, 0)), (71, .inl []), (70, .inl [])] (pu_s13 L xs).2.1 from rfl).trans ((congrArg (pu_fd 0 [(73, .inl []), (72, .inl []), (69, .inr (2, 0)), (71, .inl []), (70, .inl [])]) (pu_eI13 L xs)).trans (pu_fd_app 0 [(73, .inl []), (72, .inl []), (69, .inr (2, 0)), (71, .inl []), (70, .inl [])] pu_oI13 _).symm)
def pu_oI15 : List (pu_It Int32) := [(69, .inr (6, 0)), (74, .inl [])] ++ pu_oI14
set_option maxRecDepth 100000 in
theorem pu_eI15 (L : Nat) (xs : Nat → Int32) : (pu_s15 L xs).2.1 = pu_fd 0 pu_oI15 (pe_h0 L xs).2.1 := (show (pu_s15 L xs).2.1 = pu_fd 0 [(69, .inr (6, 0)), (74, .inl [])] (pu_s14 L xs).2.1 from rfl).trans ((congrArg (pu_fd 0 [(69, .inr (6, 0)), (74, .inl [])]) (pu_eI14 L xs)).trans (pu_fd_app 0 [(69, .inr (6, 0)), (74, .inl [])] pu_oI14 _).symm)
def pu_oI16 : List (pu_It Int32) := [(75, .inl [])] ++ pu_oI15
set_option maxRecDepth 100000 in
theorem pu_eI16 (L : Nat) (xs : Nat → Int32) : (pu_s16 L xs).2.1 = pu_fd 0 pu_oI16 (pe_h0 L xs).2.1 := (show (pu_s16 L xs).2.1 = pu_fd 0 [(75, .inl [])] (pu_s15 L xs).2.1 from rfl).trans ((congrArg (pu_fd 0 [(75, .inl [])]) (pu_eI15 L xs)).trans (pu_fd_app 0 [(75, .inl [])] pu_oI15 _).symm)
def pu_oI17 : List (pu_It Int32) := [(79, .inl []), (78, .inl []), (75, .inr (2, 0)), (77, .inl []), (76, .inl [])] ++ pu_oI16
set_option maxRecDepth 100000 in
theorem pu_eI17 (L : Nat) (xs : Nat → Int32) : (pu_s17 L xs).2.1 = pu_fd 0 pu_oI17 (pe_h0 L xs).2.1 := (show (pu_s17 L xs).2.1 = pu_fd 0 [(79, .inl []), (78, .inl []), (75, .inr (2, 0)), (77, .inl []), (76, .inl [])] (pu_s16 L xs).2.1 from rfl).trans ((congrArg (pu_fd 0 [(79, .inl []), (78, .inl []), (75, .inr (2, 0)), (77, .inl []), (76, .inl [])]) (pu_eI16 L xs)).trans (pu_fd_app 0 [(79, .inl []), (78, .inl []), (75, .inr (2, 0)), (77, .inl []), (76, .inl [])] pu_oI16 _).symm)
def pu_oI18 : List (pu_It Int32) := [(75, .inr (6, 0)), (80, .inl [])] ++ pu_oI17
set_option maxRecDepth 100000 in
theorem pu_eI18 (L : Nat) (xs : Nat → Int32) : (pu_s18 L xs).2.1 = pu_fd 0 pu_oI18 (pe_h0 L xs).2.1 := (show (pu_s18 L xs).2.1 = pu_fd 0 [(75, .inr (6, 0)), (80, .inl [])] (pu_s17 L xs).2.1 from rfl).trans ((congrArg (pu_fd 0 [(75, .inr (6, 0)), (80, .inl [])]) (pu_eI17 L xs)).trans (pu_fd_app 0 [(75, .inr (6, 0)), (80, .inl [])] pu_oI17 _).symm)
def pu_oI19 : List (pu_It Int32) := [] ++ pu_oI18
set_option maxRecDepth 100000 in
theorem pu_eI19 (L : Nat) (xs : Nat → Int32) : (pu_s19 L xs).2.1 = pu_fd 0 pu_oI19 (pe_h0 L xs).2.1 := (show (pu_s19 L xs).2.1 = pu_fd 0 [] (pu_s18 L xs).2.1 from rfl).trans ((congrArg (pu_fd 0 []) (pu_eI18 L xs)).trans (pu_fd_app 0 [] pu_oI18 _).symm)
def pu_oI20 : List (pu_It Int32) := [(81, .inl [])] ++ pu_oI19
set_option maxRecDepth 100000 in
theorem pu_eI20 (L : Nat) (xs : Nat → Int32) : (pu_s20 L xs).2.1 = pu_fd 0 pu_oI20 (pe_h0 L xs).2.1 := (show (pu_s20 L xs).2.1 = pu_fd 0 [(81, .inl [])] (pu_s19 L xs).2.1 from rfl).trans ((congrArg (pu_fd 0 [(81, .inl [])]) (pu_eI19 L xs)).trans (pu_fd_app 0 [(81, .inl [])] pu_oI19 _).symm)
def pu_oI21 : List (pu_It Int32) := [(85, .inl []), (84, .inl []), (83, .inl []), (82, .inl [])] ++ pu_oI20
set_option maxRecDepth 100000 in
theorem pu_eI21 (L : Nat) (xs : Nat → Int32) : (pu_s21 L xs).2.1 = pu_fd 0 pu_oI21 (pe_h0 L xs).2.1 := (show (pu_s21 L xs).2.1 = pu_fd 0 [(85, .inl []), (84, .inl []), (83, .inl []), (82, .inl [])] (pu_s20 L xs).2.1 from rfl).trans ((congrArg (pu_fd 0 [(85, .inl []), (84, .inl []), (83, .inl []), (82, .inl [])]) (pu_eI20 L xs)).trans (pu_fd_app 0 [(85, .inl []), (84, .inl []), (83, .inl []), (82, .inl [])] pu_oI20 _).symm)
def pu_oI22 : List (pu_It Int32) := [(81, .inr (4, 0))] ++ pu_oI21
set_option maxRecDepth 100000 in
theorem pu_eI22 (L : Nat) (xs : Nat → Int32) : (pu_s22 L xs).2.1 = pu_fd 0 pu_oI22 (pe_h0 L xs).2.1 := (show (pu_s22 L xs).2.1 = pu_fd 0 [(81, .inr (4, 0))] (pu_s21 L xs).2.1 from rfl).trans ((congrArg (pu_fd 0 [(81, .inr (4, 0))]) (pu_eI21 L xs)).trans (pu_fd_app 0 [(81, .inr (4, 0))] pu_oI21 _).symm)
def pu_oI23 : List (pu_It Int32) := [(86, .inl [])] ++ pu_oI22
set_option maxRecDepth 100000 in
theorem pu_eI23 (L : Nat) (xs : Nat → Int32) : (pu_s23 L xs).2.1 = pu_fd 0 pu_oI23 (pe_h0 L xs).2.1 := (show (pu_s23 L xs).2.1 = pu_fd 0 [(86, .inl [])] (pu_s22 L xs).2.1 from rfl).trans ((congrArg (pu_fd 0 [(86, .inl [])]) (pu_eI22 L xs)).trans (pu_fd_app 0 [(86, .inl [])] pu_oI22 _).symm)
def pu_oI24 : List (pu_It Int32) := [(90, .inl []), (89, .inl []), (88, .inl []), (87, .inl [])] ++ pu_oI23
set_option maxRecDepth 100000 in
theorem pu_eI24 (L : Nat) (xs : Nat → Int32) : (pu_s24 L xs).2.1 = pu_fd 0 pu_oI24 (pe_h0 L xs).2.1 := (show (pu_s24 L xs).2.1 = pu_fd 0 [(90, .inl []), (89, .inl []), (88, .inl []), (87, .inl [])] (pu_s23 L xs).2.1 from rfl).trans ((congrArg (pu_fd 0 [(90, .inl []), (89, .inl []), (88, .inl []), (87, .inl [])]) (pu_eI23 L xs)).trans (pu_fd_app 0 [(90, .inl []), (89, .inl []), (88, .inl []), (87, .inl [])] pu_oI23 _).symm)
def pu_oI25 : List (pu_It Int32) := [(86, .inr (4, 0))] ++ pu_oI24
set_option maxRecDepth 100000 in
theorem pu_eI25 (L : Nat) (xs : Nat → Int32) : (pu_s25 L xs).2.1 = pu_fd 0 pu_oI25 (pe_h0 L xs).2.1 := (show (pu_s25 L xs).2.1 = pu_fd 0 [(86, .inr (4, 0))] (pu_s24 L xs).2.1 from rfl).trans ((congrArg (pu_fd 0 [(86, .inr (4, 0))]) (pu_eI24 L xs)).trans (pu_fd_app 0 [(86, .inr (4, 0))] pu_oI24 _).symm)
def pu_oI26 : List (pu_It Int32) := [(92, .inl []), (48, .inr (6, 0)), (91, .inl [])] ++ pu_oI25
set_option maxRecDepth 100000 in
theorem pu_eI26 (L : Nat) (xs : Nat → Int32) : (pu_s26 L xs).2.1 = pu_fd 0 pu_oI26 (pe_h0 L xs).2.1 := (show (pu_s26 L xs).2.1 = pu_fd 0 [(92, .inl []), (48, .inr (6, 0)), (91, .inl [])] (pu_s25 L xs).2.1 from rfl).trans ((congrArg (pu_fd 0 [(92, .inl []), (48, .inr (6, 0)), (91, .inl [])]) (pu_eI25 L xs)).trans (pu_fd_app 0 [(92, .inl []), (48, .inr (6, 0)), (91, .inl [])] pu_oI25 _).symm)
def pu_oI27 : List (pu_It Int32) := [(94, .inl []), (93, .inl [])] ++ pu_oI26
set_option maxRecDepth 100000 in
theorem pu_eI27 (L : Nat) (xs : Nat → Int32) : (pu_s27 L xs).2.1 = pu_fd 0 pu_oI27 (pe_h0 L xs).2.1 := (show (pu_s27 L xs).2.1 = pu_fd 0 [(94, .inl []), (93, .inl [])] (pu_s26 L xs).2.1 from rfl).trans ((congrArg (pu_fd 0 [(94, .inl []), (93, .inl [])]) (pu_eI26 L xs)).trans (pu_fd_app 0 [(94, .inl []), (93, .inl [])] pu_oI26 _).symm)
def pu_oI28 : List (pu_It Int32) := [(92, .inr (10, 0)), (92, .inr (9, 0)), (95, .inr (1, 8)), (95, .inr (0, 8)), (95, .inl []), (92, .inr (7, 0))] ++ pu_oI27
set_option maxRecDepth 100000 in
theorem pu_eI28 (L : Nat) (xs : Nat → Int32) : (pu_s28 L xs).2.1 = pu_fd 0 pu_oI28 (pe_h0 L xs).2.1 := (show (pu_s28 L xs).2.1 = pu_fd 0 [(92, .inr (10, 0)), (92, .inr (9, 0)), (95, .inr (1, 8)), (95, .inr (0, 8)), (95, .inl []), (92, .inr (7, 0))] (pu_s27 L xs).2.1 from rfl).trans ((congrArg (pu_fd 0 [(92, .inr (10, 0)), (92, .inr (9, 0)), (95, .inr (1, 8)), (95, .inr (0, 8)), (95, .inl []), (92, .inr (7, 0))]) (pu_eI27 L xs)).trans (pu_fd_app 0 [(92, .inr (10, 0)), (92, .inr (9, 0)), (95, .inr (1, 8)), (95, .inr (0, 8)), (95, .inl []), (92, .inr (7, 0))] pu_oI27 _).symm)
def pu_oI29 : List (pu_It Int32) := [(92, .inr (12, 0)), (92, .inr (11, 0))] ++ pu_oI28
set_option maxRecDepth 100000 in
theorem pu_eI29 (L : Nat) (xs : Nat → Int32) : (pu_s29 L xs).2.1 = pu_fd 0 pu_oI29 (pe_h0 L xs).2.1 := (show (pu_s29 L xs).2.1 = pu_fd 0 [(92, .inr (12, 0)), (92, .inr (11, 0))] (pu_s28 L xs).2.1 from rfl).trans ((congrArg (pu_fd 0 [(92, .inr (12, 0)), (92, .inr (11, 0))]) (pu_eI28 L xs)).trans (pu_fd_app 0 [(92, .inr (12, 0)), (92, .inr (11, 0))] pu_oI28 _).symm)
def pu_oI30 : List (pu_It Int32) := [(98, .inl []), (97, .inl []), (96, .inl [])] ++ pu_oI29
set_option maxRecDepth 100000 in
theorem pu_eI30 (L : Nat) (xs : Nat → Int32) : (pu_s30 L xs).2.1 = pu_fd 0 pu_oI30 (pe_h0 L xs).2.1 := (show (pu_s30 L xs).2.1 = pu_fd 0 [(98, .inl []), (97, .inl []), (96, .inl [])] (pu_s29 L xs).2.1 from rfl).trans ((congrArg (pu_fd 0 [(98, .inl []), (97, .inl []), (96, .inl [])]) (pu_eI29 L xs)).trans (pu_fd_app 0 [(98, .inl []), (97, .inl []), (96, .inl [])] pu_oI29 _).symm)
def pu_oI31 : List (pu_It Int32) := [(99, .inl [])] ++ pu_oI30
set_option maxRecDepth 100000 in
theorem pu_eI31 (L : Nat) (xs : Nat → Int32) : (pu_s31 L xs).2.1 = pu_fd 0 pu_oI31 (pe_h0 L xs).2.1 := (show (pu_s31 L xs).2.1 = pu_fd 0 [(99, .inl [])] (pu_s30 L xs).2.1 from rfl).trans ((congrArg (pu_fd 0 [(99, .inl [])]) (pu_eI30 L xs)).trans (pu_fd_app 0 [(99, .inl [])] pu_oI30 _).symm)
def pu_oI32 : List (pu_It Int32) := [(101, .inl []), (100, .inl [])] ++ pu_oI31
set_option maxRecDepth 100000 in
theorem pu_eI32 (L : Nat) (xs : Nat → Int32) : (pu_s32 L xs).2.1 = pu_fd 0 pu_oI32 (pe_h0 L xs).2.1 := (show (pu_s32 L xs).2.1 = pu_fd 0 [(101, .inl []), (100, .inl [])] (pu_s31 L xs).2.1 from rfl).trans ((congrArg (pu_fd 0 [(101, .inl []), (100, .inl [])]) (pu_eI31 L xs)).trans (pu_fd_app 0 [(101, .inl []), (100, .inl [])] pu_oI31 _).symm)
def pu_oI33 : List (pu_It Int32) := [(99, .inr (10, 0)), (99, .inr (9, 0)), (102, .inr (1, 8)), (102, .inr (0, 8)), (102, .inl []), (99, .inr (7, 0))] ++ pu_oI32
set_option maxRecDepth 100000 in
theorem pu_eI33 (L : Nat) (xs : Nat → Int32) : (pu_s33 L xs).2.1 = pu_fd 0 pu_oI33 (pe_h0 L xs).2.1 := (show (pu_s33 L xs).2.1 = pu_fd 0 [(99, .inr (10, 0)), (99, .inr (9, 0)), (102, .inr (1, 8)), (102, .inr (0, 8)), (102, .inl []), (99, .inr (7, 0))] (pu_s32 L xs).2.1 from rfl).trans ((congrArg (pu_fd 0 [(99, .inr (10, 0)), (99, .inr (9, 0)), (102, .inr (1, 8)), (102, .inr (0, 8)), (102, .inl []), (99, .inr (7, 0))]) (pu_eI32 L xs)).trans (pu_fd_app 0 [(99, .inr (10, 0)), (99, .inr (9, 0)), (102, .inr (1, 8)), (102, .inr (0, 8)), (102, .inl []), (99, .inr (7, 0))] pu_oI32 _).symm)
def pu_oI34 : List (pu_It Int32) := [(99, .inr (12, 0)), (99, .inr (11, 0))] ++ pu_oI33
set_option maxRecDepth 100000 in
theorem pu_eI34 (L : Nat) (xs : Nat → Int32) : (pu_s34 L xs).2.1 = pu_fd 0 pu_oI34 (pe_h0 L xs).2.1 := (show (pu_s34 L xs).2.1 = pu_fd 0 [(99, .inr (12, 0)), (99, .inr (11, 0))] (pu_s33 L xs).2.1 from rfl).trans ((congrArg (pu_fd 0 [(99, .inr (12, 0)), (99, .inr (11, 0))]) (pu_eI33 L xs)).trans (pu_fd_app 0 [(99, .inr (12, 0)), (99, .inr (11, 0))] pu_oI33 _).symm)
def pu_oI35 : List (pu_It Int32) := [(98, .inr (7, 0)), (98, .inr (6, 0)), (98, .inr (5, 0)), (98, .inr (4, (-1))), (98, .inr (3, (-1))), (98, .inr (2, (-1))), (98, .inr (1, (-1)))] ++ pu_oI34
set_option maxRecDepth 100000 in
theorem pu_eI35 (L : Nat) (xs : Nat → Int32) : (pu_s35 L xs).2.1 = pu_fd 0 pu_oI35 (pe_h0 L xs).2.1 := (show (pu_s35 L xs).2.1 = pu_fd 0 [(98, .inr (7, 0)), (98, .inr (6, 0)), (98, .inr (5, 0)), (98, .inr (4, (-1))), (98, .inr (3, (-1))), (98, .inr (2, (-1))), (98, .inr (1, (-1)))] (pu_s34 L xs).2.1 from rfl).trans ((congrArg (pu_fd 0 [(98, .inr (7, 0)), (98, .inr (6, 0)), (98, .inr (5, 0)), (98, .inr (4, (-1))), (98, .inr (3, (-1))), (98, .inr (2, (-1))), (98, .inr (1, (-1)))]) (pu_eI34 L xs)).trans (pu_fd_app 0 [(98, .inr (7, 0)), (98, .inr (6, 0)), (98, .inr (5, 0)), (98, .inr (4, (-1))), (98, .inr (3, (-1))), (98, .inr (2, (-1))), (98, .inr (1, (-1)))] pu_oI34 _).symm)
def pu_oI36 : List (pu_It Int32) := [(98, .inr (8, 0))] ++ pu_oI35
set_option maxRecDepth 100000 in
theorem pu_eI36 (L : Nat) (xs : Nat → Int32) : (pu_s36 L xs).2.1 = pu_fd 0 pu_oI36 (pe_h0 L xs).2.1 := (show (pu_s36 L xs).2.1 = pu_fd 0 [(98, .inr (8, 0))] (pu_s35 L xs).2.1 from rfl).trans ((congrArg (pu_fd 0 [(98, .inr (8, 0))]) (pu_eI35 L xs)).trans (pu_fd_app 0 [(98, .inr (8, 0))] pu_oI35 _).symm)
def pu_oI37 : List (pu_It Int32) := [(104, .inl []), (103, .inl [])] ++ pu_oI36
set_option maxRecDepth 100000 in
theorem pu_eI37 (L : Nat) (xs : Nat → Int32) : (pu_s37 L xs).2.1 = pu_fd 0 pu_oI37 (pe_h0 L xs).2.1 := (show (pu_s37 L xs).2.1 = pu_fd 0 [(104, .inl []), (103, .inl [])] (pu_s36 L xs).2.1 from rfl).trans ((congrArg (pu_fd 0 [(104, .inl []), (103, .inl [])]) (pu_eI36 L xs)).trans (pu_fd_app 0 [(104, .inl []), (103, .inl [])] pu_oI36 _).symm)
def pu_oI38 : List (pu_It Int32) := [(104, .inr (4, 0)), (104, .inr (3, 0)), (107, .inl []), (106, .inl []), (105, .inl [])] ++ pu_oI37
set_option maxRecDepth 100000 in
theorem pu_eI38 (L : Nat) (xs : Nat → Int32) : (pu_s38 L xs).2.1 = pu_fd 0 pu_oI38 (pe_h0 L xs).2.1 := (show (pu_s38 L xs).2.1 = pu_fd 0 [(104, .inr (4, 0)), (104, .inr (3, 0)), (107, .inl []), (106, .inl []), (105, .inl [])] (pu_s37 L xs).2.1 from rfl).trans ((congrArg (pu_fd 0 [(104, .inr (4, 0)), (104, .inr (3, 0)), (107, .inl []), (106, .inl []), (105, .inl [])]) (pu_eI37 L xs)).trans (pu_fd_app 0 [(104, .inr (4, 0)), (104, .inr (3, 0)), (107, .inl []), (106, .inl []), (105, .inl [])] pu_oI37 _).symm)
def pu_oI39 : List (pu_It Int32) := [(108, .inl [])] ++ pu_oI38
set_option maxRecDepth 100000 in
theorem pu_eI39 (L : Nat) (xs : Nat → Int32) : (pu_s39 L xs).2.1 = pu_fd 0 pu_oI39 (pe_h0 L xs).2.1 := (show (pu_s39 L xs).2.1 = pu_fd 0 [(108, .inl [])] (pu_s38 L xs).2.1 from rfl).trans ((congrArg (pu_fd 0 [(108, .inl [])]) (pu_eI38 L xs)).trans (pu_fd_app 0 [(108, .inl [])] pu_oI38 _).symm)
def pu_oI40 : List (pu_It Int32) := [(108, .inr (4, 0)), (108, .inr (3, 0)), (111, .inl []), (110, .inl []), (109, .inl [])] ++ pu_oI39
set_option maxRecDepth 100000 in
theorem pu_eI40 (L : Nat) (xs : Nat → Int32) : (pu_s40 L xs).2.1 = pu_fd 0 pu_oI40 (pe_h0 L xs).2.1 := (show (pu_s40 L xs).2.1 = pu_fd 0 [(108, .inr (4, 0)), (108, .inr (3, 0)), (111, .inl []), (110, .inl []), (109, .inl [])] (pu_s39 L xs).2.1 from rfl).trans ((congrArg (pu_fd 0 [(108, .inr (4, 0)), (108, .inr (3, 0)), (111, .inl []), (110, .inl []), (109, .inl [])]) (pu_eI39 L xs)).trans (pu_fd_app 0 [(108, .inr (4, 0)), (108, .inr (3, 0)), (111, .inl []), (110, .inl []), (109, .inl [])] pu_oI39 _).symm)
def pu_oI41 : List (pu_It Int32) := [(112, .inl [])] ++ pu_oI40
set_option maxRecDepth 100000 in
theorem pu_eI41 (L : Nat) (xs : Nat → Int32) : (pu_s41 L xs).2.1 = pu_fd 0 pu_oI41 (pe_h0 L xs).2.1 := (show (pu_s41 L xs).2.1 = pu_fd 0 [(112, .inl [])] (pu_s40 L xs).2.1 from rfl).trans ((congrArg (pu_fd 0 [(112, .inl [])]) (pu_eI40 L xs)).trans (pu_fd_app 0 [(112, .inl [])] pu_oI40 _).symm)
def pu_oI42 : List (pu_It Int32) := [(116, .inl []), (115, .inl []), (114, .inl []), (113, .inl [])] ++ pu_oI41
set_option maxRecDepth 100000 in
theorem pu_eI42 (L : Nat) (xs : Nat → Int32) : (pu_s42 L xs).2.1 = pu_fd 0 pu_oI42 (pe_h0 L xs).2.1 := (show (pu_s42 L xs).2.1 = pu_fd 0 [(116, .inl []), (115, .inl []), (114, .inl []), (113, .inl [])] (pu_s41 L xs).2.1 from rfl).trans ((congrArg (pu_fd 0 [(116, .inl []), (115, .inl []), (114, .inl []), (113, .inl [])]) (pu_eI41 L xs)).trans (pu_fd_app 0 [(116, .inl []), (115, .inl []), (114, .inl []), (113, .inl [])] pu_oI41 _).symm)
def pu_oI43 : List (pu_It Int32) := [(112, .inr (5, 0)), (112, .inr (4, 0))] ++ pu_oI42
set_option maxRecDepth 100000 in
theorem pu_eI43 (L : Nat) (xs : Nat → Int32) : (pu_s43 L xs).2.1 = pu_fd 0 pu_oI43 (pe_h0 L xs).2.1 := (show (pu_s43 L xs).2.1 = pu_fd 0 [(112, .inr (5, 0)), (112, .inr (4, 0))] (pu_s42 L xs).2.1 from rfl).trans ((congrArg (pu_fd 0 [(112, .inr (5, 0)), (112, .inr (4, 0))]) (pu_eI42 L xs)).trans (pu_fd_app 0 [(112, .inr (5, 0)), (112, .inr (4, 0))] pu_oI42 _).symm)
def pu_oI44 : List (pu_It Int32) := [(117, .inl [])] ++ pu_oI43
set_option maxRecDepth 100000 in
theorem pu_eI44 (L : Nat) (xs : Nat → Int32) : (pu_s44 L xs).2.1 = pu_fd 0 pu_oI44 (pe_h0 L xs).2.1 := (show (pu_s44 L xs).2.1 = pu_fd 0 [(117, .inl [])] (pu_s43 L xs).2.1 from rfl).trans ((congrArg (pu_fd 0 [(117, .inl [])]) (pu_eI43 L xs)).trans (pu_fd_app 0 [(117, .inl [])] pu_oI43 _).symm)
def pu_oI45 : List (pu_It Int32) := [(120, .inl []), (117, .inr (3, 0)), (117, .inr (2, 0)), (119, .inl []), (118, .inl [])] ++ pu_oI44
set_option maxRecDepth 100000 in
theorem pu_eI45 (L : Nat) (xs : Nat → Int32) : (pu_s45 L xs).2.1 = pu_fd 0 pu_oI45 (pe_h0 L xs).2.1 := (show (pu_s45 L xs).2.1 = pu_fd 0 [(120, .inl []), (117, .inr (3, 0)), (117, .inr (2, 0)), (119, .inl []), (118, .inl [])] (pu_s44 L xs).2.1 from rfl).trans ((congrArg (pu_fd 0 [(120, .inl []), (117, .inr (3, 0)), (117, .inr (2, 0)), (119, .inl []), (118, .inl [])]) (pu_eI44 L xs)).trans (pu_fd_app 0 [(120, .inl []), (117, .inr (3, 0)), (117, .inr (2, 0)), (119, .inl []), (118, .inl [])] pu_oI44 _).symm)
def pu_oI46 : List (pu_It Int32) := [(124, .inl []), (123, .inl []), (122, .inl []), (121, .inl [])] ++ pu_oI45
set_option maxRecDepth 100000 in
theorem pu_eI46 (L : Nat) (xs : Nat → Int32) : (pu_s46 L xs).2.1 = pu_fd 0 pu_oI46 (pe_h0 L xs).2.1 := (show (pu_s46 L xs).2.1 = pu_fd 0 [(124, .inl []), (123, .inl []), (122, .inl []), (121, .inl [])] (pu_s45 L xs).2.1 from rfl).trans ((congrArg (pu_fd 0 [(124, .inl []), (123, .inl []), (122, .inl []), (121, .inl [])]) (pu_eI45 L xs)).trans (pu_fd_app 0 [(124, .inl []), (123, .inl []), (122, .inl []), (121, .inl [])] pu_oI45 _).symm)
def pu_oI47 : List (pu_It Int32) := [(117, .inr (9, 0))] ++ pu_oI46
set_option maxRecDepth 100000 in
theorem pu_eI47 (L : Nat) (xs : Nat → Int32) : (pu_s47 L xs).2.1 = pu_fd 0 pu_oI47 (pe_h0 L xs).2.1 := (show (pu_s47 L xs).2.1 = pu_fd 0 [(117, .inr (9, 0))] (pu_s46 L xs).2.1 from rfl).trans ((congrArg (pu_fd 0 [(117, .inr (9, 0))]) (pu_eI46 L xs)).trans (pu_fd_app 0 [(117, .inr (9, 0))] pu_oI46 _).symm)
def pu_oI48 : List (pu_It Int32) := [(125, .inl [])] ++ pu_oI47
set_option maxRecDepth 100000 in
theorem pu_eI48 (L : Nat) (xs : Nat → Int32) : (pu_s48 L xs).2.1 = pu_fd 0 pu_oI48 (pe_h0 L xs).2.1 := (show (pu_s48 L xs).2.1 = pu_fd 0 [(125, .inl [])] (pu_s47 L xs).2.1 from rfl).trans ((congrArg (pu_fd 0 [(125, .inl [])]) (pu_eI47 L xs)).trans (pu_fd_app 0 [(125, .inl [])] pu_oI47 _).symm)
def pu_oI49 : List (pu_It Int32) := [(128, .inl []), (125, .inr (3, 0)), (125, .inr (2, 0)), (127, .inl []), (126, .inl [])] ++ pu_oI48
set_option maxRecDepth 100000 in
theorem pu_eI49 (L : Nat) (xs : Nat → Int32) : (pu_s49 L xs).2.1 = pu_fd 0 pu_oI49 (pe_h0 L xs).2.1 := (show (pu_s49 L xs).2.1 = pu_fd 0 [(128, .inl []), (125, .inr (3, 0)), (125, .inr (2, 0)), (127, .inl []), (126, .inl [])] (pu_s48 L xs).2.1 from rfl).trans ((congrArg (pu_fd 0 [(128, .inl []), (125, .inr (3, 0)), (125, .inr (2, 0)), (127, .inl []), (126, .inl [])]) (pu_eI48 L xs)).trans (pu_fd_app 0 [(128, .inl []), (125, .inr (3, 0)), (125, .inr (2, 0)), (127, .inl []), (126, .inl [])] pu_oI48 _).symm)
def pu_oI50 : List (pu_It Int32) := [(125, .inr (8, 0)), (125, .inr (7, 0)), (130, .inl []), (129, .inl [])] ++ pu_oI49
set_option maxRecDepth 100000 in
theorem pu_eI50 (L : Nat) (xs : Nat → Int32) : (pu_s50 L xs).2.1 = pu_fd 0 pu_oI50 (pe_h0 L xs).2.1 := (show (pu_s50 L xs).2.1 = pu_fd 0 [(125, .inr (8, 0)), (125, .inr (7, 0)), (130, .inl []), (129, .inl [])] (pu_s49 L xs).2.1 from rfl).trans ((congrArg (pu_fd 0 [(125, .inr (8, 0)), (125, .inr (7, 0)), (130, .inl []), (129, .inl [])]) (pu_eI49 L xs)).trans (pu_fd_app 0 [(125, .inr (8, 0)), (125, .inr (7, 0)), (130, .inl []), (129, .inl [])] pu_oI49 _).symm)
def pu_oI51 : List (pu_It Int32) := [(133, .inl []), (48, .inr (19, 0)), (132, .inl []), (131, .inl [])] ++ pu_oI50
set_option maxRecDepth 100000 in
theorem pu_eI51 (L : Nat) (xs : Nat → Int32) : (pu_s51 L xs).2.1 = pu_fd 0 pu_oI51 (pe_h0 L xs).2.1 := (show (pu_s51 L xs).2.1 = pu_fd 0 [(133, .inl []), (48, .inr (19, 0)), (132, .inl []), (131, .inl [])] (pu_s50 L xs).2.1 from rfl).trans ((congrArg (pu_fd 0 [(133, .inl []), (48, .inr (19, 0)), (132, .inl []), (131, .inl [])]) (pu_eI50 L xs)).trans (pu_fd_app 0 [(133, .inl []), (48, .inr (19, 0)), (132, .inl []), (131, .inl [])] pu_oI50 _).symm)
def pu_oI52 : List (pu_It Int32) := [(133, .inr (5, 0)), (133, .inr (4, 0)), (133, .inr (2, 0)), (133, .inr (1, 0)), (133, .inr (0, 1))] ++ pu_oI51
set_option maxRecDepth 100000 in
theorem pu_eI52 (L : Nat) (xs : Nat → Int32) : (pu_s52 L xs).2.1 = pu_fd 0 pu_oI52 (pe_h0 L xs).2.1 := (show (pu_s52 L xs).2.1 = pu_fd 0 [(133, .inr (5, 0)), (133, .inr (4, 0)), (133, .inr (2, 0)), (133, .inr (1, 0)), (133, .inr (0, 1))] (pu_s51 L xs).2.1 from rfl).trans ((congrArg (pu_fd 0 [(133, .inr (5, 0)), (133, .inr (4, 0)), (133, .inr (2, 0)), (133, .inr (1, 0)), (133, .inr (0, 1))]) (pu_eI51 L xs)).trans (pu_fd_app 0 [(133, .inr (5, 0)), (133, .inr (4, 0)), (133, .inr (2, 0)), (133, .inr (1, 0)), (133, .inr (0, 1))] pu_oI51 _).symm)
def pu_oI53 : List (pu_It Int32) := [(134, .inl [])] ++ pu_oI52
set_option maxRecDepth 100000 in
theorem pu_eI53 (L : Nat) (xs : Nat → Int32) : (pu_s53 L xs).2.1 = pu_fd 0 pu_oI53 (pe_h0 L xs).2.1 := (show (pu_s53 L xs).2.1 = pu_fd 0 [(134, .inl [])] (pu_s52 L xs).2.1 from rfl).trans ((congrArg (pu_fd 0 [(134, .inl [])]) (pu_eI52 L xs)).trans (pu_fd_app 0 [(134, .inl [])] pu_oI52 _).symm)
def pu_oI54 : List (pu_It Int32) := [(134, .inr (5, 0)), (134, .inr (4, 0)), (134, .inr (2, 0)), (134, .inr (1, 0)), (134, .inr (0, 1))] ++ pu_oI53
set_option maxRecDepth 100000 in
theorem pu_eI54 (L : Nat) (xs : Nat → Int32) : (pu_s54 L xs).2.1 = pu_fd 0 pu_oI54 (pe_h0 L xs).2.1 := (show (pu_s54 L xs).2.1 = pu_fd 0 [(134, .inr (5, 0)), (134, .inr (4, 0)), (134, .inr (2, 0)), (134, .inr (1, 0)), (134, .inr (0, 1))] (pu_s53 L xs).2.1 from rfl).trans ((congrArg (pu_fd 0 [(134, .inr (5, 0)), (134, .inr (4, 0)), (134, .inr (2, 0)), (134, .inr (1, 0)), (134, .inr (0, 1))]) (pu_eI53 L xs)).trans (pu_fd_app 0 [(134, .inr (5, 0)), (134, .inr (4, 0)), (134, .inr (2, 0)), (134, .inr (1, 0)), (134, .inr (0, 1))] pu_oI53 _).symm)
def pu_oI55 : List (pu_It Int32) := [(135, .inl [])] ++ pu_oI54
set_option maxRecDepth 100000 in
theorem pu_eI55 (L : Nat) (xs : Nat → Int32) : (pu_s55 L xs).2.1 = pu_fd 0 pu_oI55 (pe_h0 L xs).2.1 := (show (pu_s55 L xs).2.1 = pu_fd 0 [(135, .inl [])] (pu_s54 L xs).2.1 from rfl).trans ((congrArg (pu_fd 0 [(135, .inl [])]) (pu_eI54 L xs)).trans (pu_fd_app 0 [(135, .inl [])] pu_oI54 _).symm)
def pu_oI56 : List (pu_It Int32) := [(135, .inr (5, 0)), (135, .inr (4, 0)), (135, .inr (2, 0)), (135, .inr (1, 0)), (135, .inr (0, 1))] ++ pu_oI55
set_option maxRecDepth 100000 in
theorem pu_eI56 (L : Nat) (xs : Nat → Int32) : (pu_s56 L xs).2.1 = pu_fd 0 pu_oI56 (pe_h0 L xs).2.1 := (show (pu_s56 L xs).2.1 = pu_fd 0 [(135, .inr (5, 0)), (135, .inr (4, 0)), (135, .inr (2, 0)), (135, .inr (1, 0)), (135, .inr (0, 1))] (pu_s55 L xs).2.1 from rfl).trans ((congrArg (pu_fd 0 [(135, .inr (5, 0)), (135, .inr (4, 0)), (135, .inr (2, 0)), (135, .inr (1, 0)), (135, .inr (0, 1))]) (pu_eI55 L xs)).trans (pu_fd_app 0 [(135, .inr (5, 0)), (135, .inr (4, 0)), (135, .inr (2, 0)), (135, .inr (1, 0)), (135, .inr (0, 1))] pu_oI55 _).symm)
def pu_oI57 : List (pu_It Int32) := [(136, .inl [])] ++ pu_oI56
set_option maxRecDepth 100000 in
theorem pu_eI57 (L : Nat) (xs : Nat → Int32) : (pu_s57 L xs).2.1 = pu_fd 0 pu_oI57 (pe_h0 L xs).2.1 := (show (pu_s57 L xs).2.1 = pu_fd 0 [(136, .inl [])] (pu_s56 L xs).2.1 from rfl).trans ((congrArg (pu_fd 0 [(136, .inl [])]) (pu_eI56 L xs)).trans (pu_fd_app 0 [(136, .inl [])] pu_oI56 _).symm)
def pu_oI58 : List (pu_It Int32) := [(136, .inr (5, 0)), (136, .inr (4, 0)), (136, .inr (2, 0)), (136, .inr (1, 0)), (136, .inr (0, 1))] ++ pu_oI57
set_option maxRecDepth 100000 in
theorem pu_eI58 (L : Nat) (xs : Nat → Int32) : (pu_s58 L xs).2.1 = pu_fd 0 pu_oI58 (pe_h0 L xs).2.1 := (show (pu_s58 L xs).2.1 = pu_fd 0 [(136, .inr (5, 0)), (136, .inr (4, 0)), (136, .inr (2, 0)), (136, .inr (1, 0)), (136, .inr (0, 1))] (pu_s57 L xs).2.1 from rfl).trans ((congrArg (pu_fd 0 [(136, .inr (5, 0)), (136, .inr (4, 0)), (136, .inr (2, 0)), (136, .inr (1, 0)), (136, .inr (0, 1))]) (pu_eI57 L xs)).trans (pu_fd_app 0 [(136, .inr (5, 0)), (136, .inr (4, 0)), (136, .inr (2, 0)), (136, .inr (1, 0)), (136, .inr (0, 1))] pu_oI57 _).symm)
def pu_oI59 : List (pu_It Int32) := [(137, .inl [])] ++ pu_oI58
set_option maxRecDepth 100000 in
theorem pu_eI59 (L : Nat) (xs : Nat → Int32) : (pu_s59 L xs).2.1 = pu_fd 0 pu_oI59 (pe_h0 L xs).2.1 := (show (pu_s59 L xs).2.1 = pu_fd 0 [(137, .inl [])] (pu_s58 L xs).2.1 from rfl).trans ((congrArg (pu_fd 0 [(137, .inl [])]) (pu_eI58 L xs)).trans (pu_fd_app 0 [(137, .inl [])] pu_oI58 _).symm)
def pu_oI60 : List (pu_It Int32) := [(139, .inl []), (138, .inl [])] ++ pu_oI59
set_option maxRecDepth 100000 in
theorem pu_eI60 (L : Nat) (xs : Nat → Int32) : (pu_s60 L xs).2.1 = pu_fd 0 pu_oI60 (pe_h0 L xs).2.1 := (show (pu_s60 L xs).2.1 = pu_fd 0 [(139, .inl []), (138, .inl [])] (pu_s59 L xs).2.1 from rfl).trans ((congrArg (pu_fd 0 [(139, .inl []), (138, .inl [])]) (pu_eI59 L xs)).trans (pu_fd_app 0 [(139, .inl []), (138, .inl [])] pu_oI59 _).symm)
def pu_oI61 : List (pu_It Int32) := [(137, .inr (10, 0)), (137, .inr (9, 0)), (140, .inr (1, 8)), (140, .inr (0, 8)), (140, .inl []), (137, .inr (7, 0))] ++ pu_oI60
set_option maxRecDepth 100000 in
theorem pu_eI61 (L : Nat) (xs : Nat → Int32) : (pu_s61 L xs).2.1 = pu_fd 0 pu_oI61 (pe_h0 L xs).2.1 := (show (pu_s61 L xs).2.1 = pu_fd 0 [(137, .inr (10, 0)), (137, .inr (9, 0)), (140, .inr (1, 8)), (140, .inr (0, 8)), (140, .inl []), (137, .inr (7, 0))] (pu_s60 L xs).2.1 from rfl).trans ((congrArg (pu_fd 0 [(137, .inr (10, 0)), (137, .inr (9, 0)), (140, .inr (1, 8)), (140, .inr (0, 8)), (140, .inl []), (137, .inr (7, 0))]) (pu_eI60 L xs)).trans (pu_fd_app 0 [(137, .inr (10, 0)), (137, .inr (9, 0)), (140, .inr (1, 8)), (140, .inr (0, 8)), (140, .inl []), (137, .inr (7, 0))] pu_oI60 _).symm)
def pu_oI62 : List (pu_It Int32) := [(137, .inr (12, 0)), (137, .inr (11, 0))] ++ pu_oI61
set_option maxRecDepth 100000 in
theorem pu_eI62 (L : Nat) (xs : Nat → Int32) : (pu_s62 L xs).2.1 = pu_fd 0 pu_oI62 (pe_h0 L xs).2.1 := (show (pu_s62 L xs).2.1 = pu_fd 0 [(137, .inr (12, 0)), (137, .inr (11, 0))] (pu_s61 L xs).2.1 from rfl).trans ((congrArg (pu_fd 0 [(137, .inr (12, 0)), (137, .inr (11, 0))]) (pu_eI61 L xs)).trans (pu_fd_app 0 [(137, .inr (12, 0)), (137, .inr (11, 0))] pu_oI61 _).symm)
def pu_oI63 : List (pu_It Int32) := [(141, .inl [])] ++ pu_oI62
set_option maxRecDepth 100000 in
theorem pu_eI63 (L : Nat) (xs : Nat → Int32) : (pu_s63 L xs).2.1 = pu_fd 0 pu_oI63 (pe_h0 L xs).2.1 := (show (pu_s63 L xs).2.1 = pu_fd 0 [(141, .inl [])] (pu_s62 L xs).2.1 from rfl).trans ((congrArg (pu_fd 0 [(141, .inl [])]) (pu_eI62 L xs)).trans (pu_fd_app 0 [(141, .inl [])] pu_oI62 _).symm)
def pu_oI64 : List (pu_It Int32) := [(143, .inl []), (142, .inl [])] ++ pu_oI63
set_option maxRecDepth 100000 in
theorem pu_eI64 (L : Nat) (xs : Nat → Int32) : (pu_s64 L xs).2.1 = pu_fd 0 pu_oI64 (pe_h0 L xs).2.1 := (show (pu_s64 L xs).2.1 = pu_fd 0 [(143, .inl []), (142, .inl [])] (pu_s63 L xs).2.1 from rfl).trans ((congrArg (pu_fd 0 [(143, .inl []), (142, .inl [])]) (pu_eI63 L xs)).trans (pu_fd_app 0 [(143, .inl []), (142, .inl [])] pu_oI63 _).symm)
def pu_oI65 : List (pu_It Int32) := [(141, .inr (10, 0)), (141, .inr (9, 0)), (144, .inr (1, 8)), (144, .inr (0, 8)), (144, .inl []), (141, .inr (7, 0))] ++ pu_oI64
set_option maxRecDepth 100000 in
theorem pu_eI65 (L : Nat) (xs : Nat → Int32) : (pu_s65 L xs).2.1 = pu_fd 0 pu_oI65 (pe_h0 L xs).2.1 := (show (pu_s65 L xs).2.1 = pu_fd 0 [(141, .inr (10, 0)), (141, .inr (9, 0)), (144, .inr (1, 8)), (144, .inr (0, 8)), (144, .inl []), (141, .inr (7, 0))] (pu_s64 L xs).2.1 from rfl).trans ((congrArg (pu_fd 0 [(141, .inr (10, 0)), (141, .inr (9, 0)), (144, .inr (1, 8)), (144, .inr (0, 8)), (144, .inl []), (141, .inr (7, 0))]) (pu_eI64 L xs)).trans (pu_fd_app 0 [(141, .inr (10, 0)), (141, .inr (9, 0)), (144, .inr (1, 8)), (144, .inr (0, 8)), (144, .inl []), (141, .inr (7, 0))] pu_oI64 _).symm)
def pu_oI66 : List (pu_It Int32) := [(141, .inr (12, 0)), (141, .inr (11, 0))] ++ pu_oI65
set_option maxRecDepth 100000 in
theorem pu_eI66 (L : Nat) (xs : Nat → Int32) : (pu_s66 L xs).2.1 = pu_fd 0 pu_oI66 (pe_h0 L xs).2.1 := (show (pu_s66 L xs).2.1 = pu_fd 0 [(141, .inr (12, 0)), (141, .inr (11, 0))] (pu_s65 L xs).2.1 from rfl).trans ((congrArg (pu_fd 0 [(141, .inr (12, 0)), (141, .inr (11, 0))]) (pu_eI65 L xs)).trans (pu_fd_app 0 [(141, .inr (12, 0)), (141, .inr (11, 0))] pu_oI65 _).symm)
def pu_oI67 : List (pu_It Int32) := [(103, .inr (3, (-1))), (103, .inr (2, (-1))), (103, .inr (1, (-1))), (103, .inr (0, (-1)))] ++ pu_oI66
set_option maxRecDepth 100000 in
theorem pu_eI67 (L : Nat) (xs : Nat → Int32) : (pu_s67 L xs).2.1 = pu_fd 0 pu_oI67 (pe_h0 L xs).2.1 := (show (pu_s67 L xs).2.1 = pu_fd 0 [(103, .inr (3, (-1))), (103, .inr (2, (-1))), (103, .inr (1, (-1))), (103, .inr (0, (-1)))] (pu_s66 L xs).2.1 from rfl).trans ((congrArg (pu_fd 0 [(103, .inr (3, (-1))), (103, .inr (2, (-1))), (103, .inr (1, (-1))), (103, .inr (0, (-1)))]) (pu_eI66 L xs)).trans (pu_fd_app 0 [(103, .inr (3, (-1))), (103, .inr (2, (-1))), (103, .inr (1, (-1))), (103, .inr (0, (-1)))] pu_oI66 _).symm)
def pu_oI68 : List (pu_It Int32) := [(145, .inl [])] ++ pu_oI67
set_option maxRecDepth 100000 in
theorem pu_eI68 (L : Nat) (xs : Nat → Int32) : (pu_s68 L xs).2.1 = pu_fd 0 pu_oI68 (pe_h0 L xs).2.1 := (show (pu_s68 L xs).2.1 = pu_fd 0 [(145, .inl [])] (pu_s67 L xs).2.1 from rfl).trans ((congrArg (pu_fd 0 [(145, .inl [])]) (pu_eI67 L xs)).trans (pu_fd_app 0 [(145, .inl [])] pu_oI67 _).symm)
def pu_oI69 : List (pu_It Int32) := [(149, .inl []), (148, .inl []), (147, .inl []), (146, .inl [])] ++ pu_oI68
set_option maxRecDepth 100000 in
theorem pu_eI69 (L : Nat) (xs : Nat → Int32) : (pu_s69 L xs).2.1 = pu_fd 0 pu_oI69 (pe_h0 L xs).2.1 := (show (pu_s69 L xs).2.1 = pu_fd 0 [(149, .inl []), (148, .inl []), (147, .inl []), (146, .inl [])] (pu_s68 L xs).2.1 from rfl).trans ((congrArg (pu_fd 0 [(149, .inl []), (148, .inl []), (147, .inl []), (146, .inl [])]) (pu_eI68 L xs)).trans (pu_fd_app 0 [(149, .inl []), (148, .inl []), (147, .inl []), (146, .inl [])] pu_oI68 _).symm)
def pu_oI70 : List (pu_It Int32) := [(153, .inl []), (152, .inl []), (151, .inl []), (150, .inl [])] ++ pu_oI69
set_option maxRecDepth 100000 in
theorem pu_eI70 (L : Nat) (xs : Nat → Int32) : (pu_s70 L xs).2.1 = pu_fd 0 pu_oI70 (pe_h0 L xs).2.1 := (show (pu_s70 L xs).2.1 = pu_fd 0 [(153, .inl []), (152, .inl []), (151, .inl []), (150, .inl [])] (pu_s69 L xs).2.1 from rfl).trans ((congrArg (pu_fd 0 [(153, .inl []), (152, .inl []), (151, .inl []), (150, .inl [])]) (pu_eI69 L xs)).trans (pu_fd_app 0 [(153, .inl []), (152, .inl []), (151, .inl []), (150, .inl [])] pu_oI69 _).symm)
def pu_oI71 : List (pu_It Int32) := [(157, .inl []), (156, .inl []), (155, .inl []), (154, .inl []), (145, .inr (13, (-1)))] ++ pu_oI70
set_option maxRecDepth 100000 in
theorem pu_eI71 (L : Nat) (xs : Nat → Int32) : (pu_s71 L xs).2.1 = pu_fd 0 pu_oI71 (pe_h0 L xs).2.1 := (show (pu_s71 L xs).2.1 = pu_fd 0 [(157, .inl []), (156, .inl []), (155, .inl []), (154, .inl []), (145, .inr (13, (-1)))] (pu_s70 L xs).2.1 from rfl).trans ((congrArg (pu_fd 0 [(157, .inl []), (156, .inl []), (155, .inl []), (154, .inl []), (145, .inr (13, (-1)))]) (pu_eI70 L xs)).trans (pu_fd_app 0 [(157, .inl []), (156, .inl []), (155, .inl []), (154, .inl []), (145, .inr (13, (-1)))] pu_oI70 _).symm)
def pu_oI72 : List (pu_It Int32) := [(161, .inl []), (160, .inl []), (159, .inl []), (158, .inl [])] ++ pu_oI71
set_option maxRecDepth 100000 in
theorem pu_eI72 (L : Nat) (xs : Nat → Int32) : (pu_s72 L xs).2.1 = pu_fd 0 pu_oI72 (pe_h0 L xs).2.1 := (show (pu_s72 L xs).2.1 = pu_fd 0 [(161, .inl []), (160, .inl []), (159, .inl []), (158, .inl [])] (pu_s71 L xs).2.1 from rfl).trans ((congrArg (pu_fd 0 [(161, .inl []), (160, .inl []), (159, .inl []), (158, .inl [])]) (pu_eI71 L xs)).trans (pu_fd_app 0 [(161, .inl []), (160, .inl []), (159, .inl []), (158, .inl [])] pu_oI71 _).symm)
def pu_oI73 : List (pu_It Int32) := [(165, .inl []), (164, .inl []), (163, .inl []), (162, .inl [])] ++ pu_oI72
set_option maxRecDepth 100000 in
theorem pu_eI73 (L : Nat) (xs : Nat → Int32) : (pu_s73 L xs).2.1 = pu_fd 0 pu_oI73 (pe_h0 L xs).2.1 := (show (pu_s73 L xs).2.1 = pu_fd 0 [(165, .inl []), (164, .inl []), (163, .inl []), (162, .inl [])] (pu_s72 L xs).2.1 from rfl).trans ((congrArg (pu_fd 0 [(165, .inl []), (164, .inl []), (163, .inl []), (162, .inl [])]) (pu_eI72 L xs)).trans (pu_fd_app 0 [(165, .inl []), (164, .inl []), (163, .inl []), (162, .inl [])] pu_oI72 _).symm)
def pu_oI74 : List (pu_It Int32) := [(169, .inl []), (168, .inl []), (167, .inl []), (166, .inl [])] ++ pu_oI73
set_option maxRecDepth 100000 in
theorem pu_eI74 (L : Nat) (xs : Nat → Int32) : (pu_s74 L xs).2.1 = pu_fd 0 pu_oI74 (pe_h0 L xs).2.1 := (show (pu_s74 L xs).2.1 = pu_fd 0 [(169, .inl []), (168, .inl []), (167, .inl []), (166, .inl [])] (pu_s73 L xs).2.1 from rfl).trans ((congrArg (pu_fd 0 [(169, .inl []), (168, .inl []), (167, .inl []), (166, .inl [])]) (pu_eI73 L xs)).trans (pu_fd_app 0 [(169, .inl []), (168, .inl []), (167, .inl []), (166, .inl [])] pu_oI73 _).symm)
def pu_oI75 : List (pu_It Int32) := [(173, .inl []), (172, .inl []), (171, .inl []), (170, .inl [])] ++ pu_oI74
set_option maxRecDepth 100000 in
theorem pu_eI75 (L : Nat) (xs : Nat → Int32) : (pu_s75 L xs).2.1 = pu_fd 0 pu_oI75 (pe_h0 L xs).2.1 := (show (pu_s75 L xs).2.1 = pu_fd 0 [(173, .inl []), (172, .inl []), (171, .inl []), (170, .inl [])] (pu_s74 L xs).2.1 from rfl).trans ((congrArg (pu_fd 0 [(173, .inl []), (172, .inl []), (171, .inl []), (170, .inl [])]) (pu_eI74 L xs)).trans (pu_fd_app 0 [(173, .inl []), (172, .inl []), (171, .inl []), (170, .inl [])] pu_oI74 _).symm)
def pu_oI76 : List (pu_It Int32) := [(177, .inl []), (176, .inl []), (175, .inl []), (174, .inl [])] ++ pu_oI75
set_option maxRecDepth 100000 in
theorem pu_eI76 (L : Nat) (xs : Nat → Int32) : (pu_s76 L xs).2.1 = pu_fd 0 pu_oI76 (pe_h0 L xs).2.1 := (show (pu_s76 L xs).2.1 = pu_fd 0 [(177, .inl []), (176, .inl []), (175, .inl []), (174, .inl [])] (pu_s75 L xs).2.1 from rfl).trans ((congrArg (pu_fd 0 [(177, .inl []), (176, .inl []), (175, .inl []), (174, .inl [])]) (pu_eI75 L xs)).trans (pu_fd_app 0 [(177, .inl []), (176, .inl []), (175, .inl []), (174, .inl [])] pu_oI75 _).symm)
def pu_oI77 : List (pu_It Int32) := [(181, .inl []), (180, .inl []), (179, .inl []), (178, .inl [])] ++ pu_oI76
set_option maxRecDepth 100000 in
theorem pu_eI77 (L : Nat) (xs : Nat → Int32) : (pu_s77 L xs).2.1 = pu_fd 0 pu_oI77 (pe_h0 L xs).2.1 := (show (pu_s77 L xs).2.1 = pu_fd 0 [(181, .inl []), (180, .inl []), (179, .inl []), (178, .inl [])] (pu_s76 L xs).2.1 from rfl).trans ((congrArg (pu_fd 0 [(181, .inl []), (180, .inl []), (179, .inl []), (178, .inl [])]) (pu_eI76 L xs)).trans (pu_fd_app 0 [(181, .inl []), (180, .inl []), (179, .inl []), (178, .inl [])] pu_oI76 _).symm)
def pu_oI78 : List (pu_It Int32) := [] ++ pu_oI77
set_option maxRecDepth 100000 in
theorem pu_eI78 (L : Nat) (xs : Nat → Int32) : (pu_s78 L xs).2.1 = pu_fd 0 pu_oI78 (pe_h0 L xs).2.1 := (show (pu_s78 L xs).2.1 = pu_fd 0 [] (pu_s77 L xs).2.1 from rfl).trans ((congrArg (pu_fd 0 []) (pu_eI77 L xs)).trans (pu_fd_app 0 [] pu_oI77 _).symm)
def pu_oI79 : List (pu_It Int32) := [(148, .inr (0, 2))] ++ pu_oI78
set_option maxRecDepth 100000 in
theorem pu_eI79 (L : Nat) (xs : Nat → Int32) : (pu_s79 L xs).2.1 = pu_fd 0 pu_oI79 (pe_h0 L xs).2.1 := (show (pu_s79 L xs).2.1 = pu_fd 0 [(148, .inr (0, 2))] (pu_s78 L xs).2.1 from rfl).trans ((congrArg (pu_fd 0 [(148, .inr (0, 2))]) (pu_eI78 L xs)).trans (pu_fd_app 0 [(148, .inr (0, 2))] pu_oI78 _).symm)
def pu_oI80 : List (pu_It Int32) := [(148, .inr (1, 20))] ++ pu_oI79
set_option maxRecDepth 100000 in
theorem pu_eI80 (L : Nat) (xs : Nat → Int32) : (pu_s80 L xs).2.1 = pu_fd 0 pu_oI80 (pe_h0 L xs).2.1 := (show (pu_s80 L xs).2.1 = pu_fd 0 [(148, .inr (1, 20))] (pu_s79 L xs).2.1 from rfl).trans ((congrArg (pu_fd 0 [(148, .inr (1, 20))]) (pu_eI79 L xs)).trans (pu_fd_app 0 [(148, .inr (1, 20))] pu_oI79 _).symm)
def pu_oI81 : List (pu_It Int32) := [(148, .inr (2, 40))] ++ pu_oI80
set_option maxRecDepth 100000 in
theorem pu_eI81 (L : Nat) (xs : Nat → Int32) : (pu_s81 L xs).2.1 = pu_fd 0 pu_oI81 (pe_h0 L xs).2.1 := (show (pu_s81 L xs).2.1 = pu_fd 0 [(148, .inr (2, 40))] (pu_s80 L xs).2.1 from rfl).trans ((congrArg (pu_fd 0 [(148, .inr (2, 40))]) (pu_eI80 L xs)).trans (pu_fd_app 0 [(148, .inr (2, 40))] pu_oI80 _).symm)
def pu_oI82 : List (pu_It Int32) := [(148, .inr (3, 30))] ++ pu_oI81
set_option maxRecDepth 100000 in
theorem pu_eI82 (L : Nat) (xs : Nat → Int32) : (pu_s82 L xs).2.1 = pu_fd 0 pu_oI82 (pe_h0 L xs).2.1 := (show (pu_s82 L xs).2.1 = pu_fd 0 [(148, .inr (3, 30))] (pu_s81 L xs).2.1 from rfl).trans ((congrArg (pu_fd 0 [(148, .inr (3, 30))]) (pu_eI81 L xs)).trans (pu_fd_app 0 [(148, .inr (3, 30))] pu_oI81 _).symm)
def pu_oI83 : List (pu_It Int32) := [(148, .inr (4, 10))] ++ pu_oI82
set_option maxRecDepth 100000 in
theorem pu_eI83 (L : Nat) (xs : Nat → Int32) : (pu_s83 L xs).2.1 = pu_fd 0 pu_oI83 (pe_h0 L xs).2.1 := (show (pu_s83 L xs).2.1 = pu_fd 0 [(148, .inr (4, 10))] (pu_s82 L xs).2.1 from rfl).trans ((congrArg (pu_fd 0 [(148, .inr (4, 10))]) (pu_eI82 L xs)).trans (pu_fd_app 0 [(148, .inr (4, 10))] pu_oI82 _).symm)
def pu_oI84 : List (pu_It Int32) := [(148, .inr (5, 300))] ++ pu_oI83
set_option maxRecDepth 100000 in
theorem pu_eI84 (L : Nat) (xs : Nat → Int32) : (pu_s84 L xs).2.1 = pu_fd 0 pu_oI84 (pe_h0 L xs).2.1 := (show (pu_s84 L xs).2.1 = pu_fd 0 [(148, .inr (5, 300))] (pu_s83 L xs).2.1 from rfl).trans ((congrArg (pu_fd 0 [(148, .inr (5, 300))]) (pu_eI83 L xs)).trans (pu_fd_app 0 [(148, .inr (5, 300))] pu_oI83 _).symm)
def pu_oI85 : List (pu_It Int32) := [(148, .inr (6, 60))] ++ pu_oI84
set_option maxRecDepth 100000 in
theorem pu_eI85 (L : Nat) (xs : Nat → Int32) : (pu_s85 L xs).2.1 = pu_fd 0 pu_oI85 (pe_h0 L xs).2.1 := (show (pu_s85 L xs).2.1 = pu_fd 0 [(148, .inr (6, 60))] (pu_s84 L xs).2.1 from rfl).trans ((congrArg (pu_fd 0 [(148, .inr (6, 60))]) (pu_eI84 L xs)).trans (pu_fd_app 0 [(148, .inr (6, 60))] pu_oI84 _).symm)
def pu_oI86 : List (pu_It Int32) := [(148, .inr (7, 150))] ++ pu_oI85
set_option maxRecDepth 100000 in
theorem pu_eI86 (L : Nat) (xs : Nat → Int32) : (pu_s86 L xs).2.1 = pu_fd 0 pu_oI86 (pe_h0 L xs).2.1 := (show (pu_s86 L xs).2.1 = pu_fd 0 [(148, .inr (7, 150))] (pu_s85 L xs).2.1 from rfl).trans ((congrArg (pu_fd 0 [(148, .inr (7, 150))]) (pu_eI85 L xs)).trans (pu_fd_app 0 [(148, .inr (7, 150))] pu_oI85 _).symm)
def pu_oI87 : List (pu_It Int32) := [(157, .inr (3, (-1))), (157, .inr (2, (-1))), (157, .inr (1, (-1))), (157, .inr (0, (-1))), (148, .inr (8, 0))] ++ pu_oI86
set_option maxRecDepth 100000 in
theorem pu_eI87 (L : Nat) (xs : Nat → Int32) : (pu_s87 L xs).2.1 = pu_fd 0 pu_oI87 (pe_h0 L xs).2.1 := (show (pu_s87 L xs).2.1 = pu_fd 0 [(157, .inr (3, (-1))), (157, .inr (2, (-1))), (157, .inr (1, (-1))), (157, .inr (0, (-1))), (148, .inr (8, 0))] (pu_s86 L xs).2.1 from rfl).trans ((congrArg (pu_fd 0 [(157, .inr (3, (-1))), (157, .inr (2, (-1))), (157, .inr (1, (-1))), (157, .inr (0, (-1))), (148, .inr (8, 0))]) (pu_eI86 L xs)).trans (pu_fd_app 0 [(157, .inr (3, (-1))), (157, .inr (2, (-1))), (157, .inr (1, (-1))), (157, .inr (0, (-1))), (148, .inr (8, 0))] pu_oI86 _).symm)
def pu_oL0 : List (pu_It Int64) := []
theorem pu_eL0 (L : Nat) (xs : Nat → Int32) : (pu_s0 L xs).2.2.1 = pu_fd 0 pu_oL0 (pe_h0 L xs).2.2.1 := rfl
def pu_oL1 : List (pu_It Int64) := [(48, .inl [])] ++ pu_oL0
set_option maxRecDepth 100000 in
theorem pu_eL1 (L : Nat) (xs : Nat → Int32) : (pu_s1 L xs).2.2.1 = pu_fd 0 pu_oL1 (pe_h0 L xs).2.2.1 := (show (pu_s1 L xs).2.2.1 = pu_fd 0 [(48, .inl [])] (pu_s0 L xs).2.2.1 from rfl).trans ((congrArg (pu_fd 0 [(48, .inl [])]) (pu_eL0 L xs)).trans (pu_fd_app 0 [(48, .inl [])] pu_oL0 _).symm)
def pu_oL2 : List (pu_It Int64) := [(49, .inl [])] ++ pu_oL1
set_option maxRecDepth 100000 in
theorem pu_eL2 (L : Nat) (xs : Nat → Int32) : (pu_s2 L xs).2.2.1 = pu_fd 0 pu_oL2 (pe_h0 L xs).2.2.1 := (show (pu_s2 L xs).2.2.1 = pu_fd 0 [(49, .inl [])] (pu_s1 L xs).2.2.1 from rfl).trans ((congrArg (pu_fd 0 [(49, .inl [])]) (pu_eL1 L xs)).trans (pu_fd_app 0 [(49, .inl [])] pu_oL1 _).symm)
def pu_oL3 : List (pu_It Int64) := [(50, .inl [])] ++ pu_oL2
set_option maxRecDepth 100000 in
theorem pu_eL3 (L : Nat) (xs : Nat → Int32) : (pu_s3 L xs).2.2.1 = pu_fd 0 pu_oL3 (pe_h0 L xs).2.2.1 := (show (pu_s3 L xs).2.2.1 = pu_fd 0 [(50, .inl [])] (pu_s2 L xs).2.2.1 from rfl).trans ((congrArg (pu_fd 0 [(50, .inl [])]) (pu_eL2 L xs)).trans (pu_fd_app 0 [(50, .inl [])] pu_oL2 _).symm)
def pu_oL4 : List (pu_It Int64) := [(51, .inl [])] ++ pu_oL3
set_option maxRecDepth 100000 in
theorem pu_eL4 (L : Nat) (xs : Nat → Int32) : (pu_s4 L xs).2.2.1 = pu_fd 0 pu_oL4 (pe_h0 L xs).2.2.1 := (show (pu_s4 L xs).2.2.1 = pu_fd 0 [(51, .inl [])] (pu_s3 L xs).2.2.1 from rfl).trans ((congrArg (pu_fd 0 [(51, .inl [])]) (pu_eL3 L xs)).trans (pu_fd_app 0 [(51, .inl [])] pu_oL3 _).symm)
def pu_oL5 : List (pu_It Int64) := [(54, .inl []), (53, .inl []), (52, .inl [])] ++ pu_oL4
set_option maxRecDepth 100000 in
theorem pu_eL5 (L : Nat) (xs : Nat → Int32) : (pu_s5 L xs).2.2.1 = pu_fd 0 pu_oL5 (pe_h0 L xs).2.2.1 := (show (pu_s5 L xs).2.2.1 = pu_fd 0 [(54, .inl []), (53, .inl []), (52, .inl [])] (pu_s4 L xs).2.2.1 from rfl).trans ((congrArg (pu_fd 0 [(54, .inl []), (53, .inl []), (52, .inl [])]) (pu_eL4 L xs)).trans (pu_fd_app 0 [(54, .inl []), (53, .inl []), (52, .inl [])] pu_oL4 _).symm)
def pu_oL6 : List (pu_It Int64) := [(58, .inl []), (57, .inl []), (56, .inl []), (55, .inl [])] ++ pu_oL5
set_option maxRecDepth 100000 in
theorem pu_eL6 (L : Nat) (xs : Nat → Int32) : (pu_s6 L xs).2.2.1 = pu_fd 0 pu_oL6 (pe_h0 L xs).2.2.1 := (show (pu_s6 L xs).2.2.1 = pu_fd 0 [(58, .inl []), (57, .inl []), (56, .inl []), (55, .inl [])] (pu_s5 L xs).2.2.1 from rfl).trans ((congrArg (pu_fd 0 [(58, .inl []), (57, .inl []), (56, .inl []), (55, .inl [])]) (pu_eL5 L xs)).trans (pu_fd_app 0 [(58, .inl []), (57, .inl []), (56, .inl []), (55, .inl [])] pu_oL5 _).symm)
def pu_oL7 : List (pu_It Int64) := [(59, .inl [])] ++ pu_oL6
set_option maxRecDepth 100000 in
theorem pu_eL7 (L : Nat) (xs : Nat → Int32) : (pu_s7 L xs).2.2.1 = pu_fd 0 pu_oL7 (pe_h0 L xs).2.2.1 := (show (pu_s7 L xs).2.2.1 = pu_fd 0 [(59, .inl [])] (pu_s6 L xs).2.2.1 from rfl).trans ((congrArg (pu_fd 0 [(59, .inl [])]) (pu_eL6 L xs)).trans (pu_fd_app 0 [(59, .inl [])] pu_oL6 _).symm)
def pu_oL8 : List (pu_It Int64) := [(60, .inl [])] ++ pu_oL7
set_option maxRecDepth 100000 in
theorem pu_eL8 (L : Nat) (xs : Nat → Int32) : (pu_s8 L xs).2.2.1 = pu_fd 0 pu_oL8 (pe_h0 L xs).2.2.1 := (show (pu_s8 L xs).2.2.1 = pu_fd 0 [(60, .inl [])] (pu_s7 L xs).2.2.1 from rfl).trans ((congrArg (pu_fd 0 [(60, .inl [])]) (pu_eL7 L xs)).trans (pu_fd_app 0 [(60, .inl [])] pu_oL7 _).symm)
def pu_oL9 : List (pu_It Int64) := [(64, .inl []), (63, .inl []), (62, .inl []), (61, .inl [])] ++ pu_oL8
set_option maxRecDepth 100000 in
theorem pu_eL9 (L : Nat) (xs : Nat → Int32) : (pu_s9 L xs).2.2.1 = pu_fd 0 pu_oL9 (pe_h0 L xs).2.2.1 := (show (pu_s9 L xs).2.2.1 = pu_fd 0 [(64, .inl []), (63, .inl []), (62, .inl []), (61, .inl [])] (pu_s8 L xs).2.2.1 from rfl).trans ((congrArg (pu_fd 0 [(64, .inl []), (63, .inl []), (62, .inl []), (61, .inl [])]) (pu_eL8 L xs)).trans (pu_fd_app 0 [(64, .inl []), (63, .inl []), (62, .inl []), (61, .inl [])] pu_oL8 _).symm)
def pu_oL10 : List (pu_It Int64) := [(65, .inl [])] ++ pu_oL9
set_option maxRecDepth 100000 in
theorem pu_eL10 (L : Nat) (xs : Nat → Int32) : (pu_s10 L xs).2.2.1 = pu_fd 0 pu_oL10 (pe_h0 L xs).2.2.1 := (show (pu_s10 L xs).2.2.1 = pu_fd 0 [(65, .inl [])] (pu_s9 L xs).2.2.1 from rfl).trans ((congrArg (pu_fd 0 [(65, .inl [])]) (pu_eL9 L xs)).trans (pu_fd_app 0 [(65, .inl [])] pu_oL9 _).symm)
def pu_oL11 : List (pu_It Int64) := [] ++ pu_oL10
set_option maxRecDepth 100000 in
theorem pu_eL11 (L : Nat) (xs : Nat → Int32) : (pu_s11 L xs).2.2.1 = pu_fd 0 pu_oL11 (pe_h0 L xs).2.2.1 := (show (pu_s11 L xs).2.2.1 = pu_fd 0 [] (pu_s10 L xs).2.2.1 from rfl).trans ((congrArg (pu_fd 0 []) (pu_eL10 L xs)).trans (pu_fd_app 0 [] pu_oL10 _).symm)
def pu_oL12 : List (pu_It Int64) := [(66, .inl [])] ++ pu_oL11
set_option maxRecDepth 100000 in
theorem pu_eL12 (L : Nat) (xs : Nat → Int32) : (pu_s12 L xs).2.2.1 = pu_fd 0 pu_oL12 (pe_h0 L xs).2.2.1 := (show (pu_s12 L xs).2.2.1 = pu_fd 0 [(66, .inl [])] (pu_s11 L xs).2.2.1 from rfl).trans ((congrArg (pu_fd 0 [(66, .inl [])]) (pu_eL11 L xs)).trans (pu_fd_app 0 [(66, .inl [])] pu_oL11 _).symm)
def pu_oL13 : List (pu_It Int64) := [(69, .inl []), (68, .inl []), (67, .inl [])] ++ pu_oL12
set_option maxRecDepth 100000 in
theorem pu_eL13 (L : Nat) (xs : Nat → Int32) : (pu_s13 L xs).2.2.1 = pu_fd 0 pu_oL13 (pe_h0 L xs).2.2.1 := (show (pu_s13 L xs).2.2.1 = pu_fd 0 [(69, .inl []), (68, .inl []), (67, .inl [])] (pu_s12 L xs).2.2.1 from rfl).trans ((congrArg (pu_fd 0 [(69, .inl []), (68, .inl []), (67, .inl [])]) (pu_eL12 L xs)).trans (pu_fd_app 0 [(69, .inl []), (68, .inl []), (67, .inl [])] pu_oL12 _).symm)
def pu_oL14 : List (pu_It Int64) := [(73, .inl []), (72, .inl []), (71, .inl []), (70, .inl [])] ++ pu_oL13
set_option maxRecDepth 100000 in
theorem pu_eL14 (L : Nat) (xs : Nat → Int32) : (pu_s14 L xs).2.2.1 = pu_fd 0 pu_oL14 (pe_h0 L xs).2.2.1 := (show (pu_s14 L xs).2.2.1 = pu_fd 0 [(73, .inl []), (72, .inl []), (71, .inl []), (70, .inl [])] (pu_s13 L xs).2.2.1 from rfl).trans ((congrArg (pu_fd 0 [(73, .inl []), (72, .inl []), (71, .inl []), (70, .inl [])]) (pu_eL13 L xs)).trans (pu_fd_app 0 [(73, .inl []), (72, .inl []), (71, .inl []), (70, .inl [])] pu_oL13 _).symm)
def pu_oL15 : List (pu_It Int64) := [(74, .inl [])] ++ pu_oL14
set_option maxRecDepth 100000 in
theorem pu_eL15 (L : Nat) (xs : Nat → Int32) : (pu_s15 L xs).2.2.1 = pu_fd 0 pu_oL15 (pe_h0 L xs).2.2.1 := (show (pu_s15 L xs).2.2.1 = pu_fd 0 [(74, .inl [])] (pu_s14 L xs).2.2.1 from rfl).trans ((congrArg (pu_fd 0 [(74, .inl [])]) (pu_eL14 L xs)).trans (pu_fd_app 0 [(74, .inl [])] pu_oL14 _).symm)
def pu_oL16 : List (pu_It Int64) := [(75, .inl [])] ++ pu_oL15
set_option maxRecDepth 100000 in
theorem pu_eL16 (L : Nat) (xs : Nat → Int32) : (pu_s16 L xs).2.2.1 = pu_fd 0 pu_oL16 (pe_h0 L xs).2.2.1 := (show (pu_s16 L xs).2.2.1 = pu_fd 0 [(75, .inl [])] (pu_s15 L xs).2.2.1 from rfl).trans ((congrArg (pu_fd 0 [(75, .inl [])]) (pu_eL15 L xs)).trans (pu_fd_app 0 [(75, .inl [])] pu_oL15 _).symm)
def pu_oL17 : List (pu_It Int64) := [(79, .inl []), (78, .inl []), (77, .inl []), (76, .inl [])] ++ pu_oL16
set_option maxRecDepth 100000 in
theorem pu_eL17 (L : Nat) (xs : Nat → Int32) : (pu_s17 L xs).2.2.1 = pu_fd 0 pu_oL17 (pe_h0 L xs).2.2.1 := (show (pu_s17 L xs).2.2.1 = pu_fd 0 [(79, .inl []), (78, .inl []), (77, .inl []), (76, .inl [])] (pu_s16 L xs).2.2.1 from rfl).trans ((congrArg (pu_fd 0 [(79, .inl []), (78, .inl []), (77, .inl []), (76, .inl [])]) (pu_eL16 L xs)).trans (pu_fd_app 0 [(79, .inl []), (78, .inl []), (77, .inl []), (76, .inl [])] pu_oL16 _).symm)
def pu_oL18 : List (pu_It Int64) := [(80, .inl [])] ++ pu_oL17
set_option maxRecDepth 100000 in
theorem pu_eL18 (L : Nat) (xs : Nat → Int32) : (pu_s18 L xs).2.2.1 = pu_fd 0 pu_oL18 (pe_h0 L xs).2.2.1 := (show (pu_s18 L xs).2.2.1 = pu_fd 0 [(80, .inl [])] (pu_s17 L xs).2.2.1 from rfl).trans ((congrArg (pu_fd 0 [(80, .inl [])]) (pu_eL17 L xs)).trans (pu_fd_app 0 [(80, .inl [])] pu_oL17 _).symm)
def pu_oL19 : List (pu_It Int64) := [] ++ pu_oL18
set_option maxRecDepth 100000 in
theorem pu_eL19 (L : Nat) (xs : Nat → Int32) : (pu_s19 L xs).2.2.1 = pu_fd 0 pu_oL19 (pe_h0 L xs).2.2.1 := (show (pu_s19 L xs).2.2.1 = pu_fd 0 [] (pu_s18 L xs).2.2.1 from rfl).trans ((congrArg (pu_fd 0 []) (pu_eL18 L xs)).trans (pu_fd_app 0 [] pu_oL18 _).symm)
def pu_oL20 : List (pu_It Int64) := [(81, .inl [])] ++ pu_oL19
set_option maxRecDepth 100000 in
theorem pu_eL20 (L : Nat) (xs : Nat → Int32) : (pu_s20 L xs).2.2.1 = pu_fd 0 pu_oL20 (pe_h0 L xs).2.2.1 := (show (pu_s20 L xs).2.2.1 = pu_fd 0 [(81, .inl [])] (pu_s19 L xs).2.2.1 from rfl).trans ((congrArg (pu_fd 0 [(81, .inl [])]) (pu_eL19 L xs)).trans (pu_fd_app 0 [(81, .inl [])] pu_oL19 _).symm)
def pu_oL21 : List (pu_It Int64) := [(85, .inl []), (84, .inl []), (83, .inl []), (82, .inl [])] ++ pu_oL20
set_option maxRecDepth 100000 in
theorem pu_eL21 (L : Nat) (xs : Nat → Int32) : (pu_s21 L xs).2.2.1 = pu_fd 0 pu_oL21 (pe_h0 L xs).2.2.1 := (show (pu_s21 L xs).2.2.1 = pu_fd 0 [(85, .inl []), (84, .inl []), (83, .inl []), (82, .inl [])] (pu_s20 L xs).2.2.1 from rfl).trans ((congrArg (pu_fd 0 [(85, .inl []), (84, .inl []), (83, .inl []), (82, .inl [])]) (pu_eL20 L xs)).trans (pu_fd_app 0 [(85, .inl []), (84, .inl []), (83, .inl []), (82, .inl [])] pu_oL20 _).symm)
def pu_oL22 : List (pu_It Int64) := [] ++ pu_oL21
set_option maxRecDepth 100000 in
theorem pu_eL22 (L : Nat) (xs : Nat → Int32) : (pu_s22 L xs).2.2.1 = pu_fd 0 pu_oL22 (pe_h0 L xs).2.2.1 := (show (pu_s22 L xs).2.2.1 = pu_fd 0 [] (pu_s21 L xs).2.2.1 from rfl).trans ((congrArg (pu_fd 0 []) (pu_eL21 L xs)).trans (pu_fd_app 0 [] pu_oL21 _).symm)
def pu_oL23 : List (pu_It Int64) := [(86, .inl [])] ++ pu_oL22
set_option maxRecDepth 100000 in
theorem pu_eL23 (L : Nat) (xs : Nat → Int32) : (pu_s23 L xs).2.2.1 = pu_fd 0 pu_oL23 (pe_h0 L xs).2.2.1 := (show (pu_s23 L xs).2.2.1 = pu_fd 0 [(86, .inl [])] (pu_s22 L xs).2.2.1 from rfl).trans ((congrArg (pu_fd 0 [(86, .inl [])]) (pu_eL22 L xs)).trans (pu_fd_app 0 [(86, .inl [])] pu_oL22 _).symm)
def pu_oL24 : List (pu_It Int64) := [(90, .inl []), (89, .inl []), (88, .inl []), (87, .inl [])] ++ pu_oL23
set_option maxRecDepth 100000 in
theorem pu_eL24 (L : Nat) (xs : Nat → Int32) : (pu_s24 L xs).2.2.1 = pu_fd 0 pu_oL24 (pe_h0 L xs).2.2.1 := (show (pu_s24 L xs).2.2.1 = pu_fd 0 [(90, .inl []), (89, .inl []), (88, .inl []), (87, .inl [])] (pu_s23 L xs).2.2.1 from rfl).trans ((congrArg (pu_fd 0 [(90, .inl []), (89, .inl []), (88, .inl []), (87, .inl [])]) (pu_eL23 L xs)).trans (pu_fd_app 0 [(90, .inl []), (89, .inl []), (88, .inl []), (87, .inl [])] pu_oL23 _).symm)
def pu_oL25 : List (pu_It Int64) := [] ++ pu_oL24
set_option maxRecDepth 100000 in
theorem pu_eL25 (L : Nat) (xs : Nat → Int32) : (pu_s25 L xs).2.2.1 = pu_fd 0 pu_oL25 (pe_h0 L xs).2.2.1 := (show (pu_s25 L xs).2.2.1 = pu_fd 0 [] (pu_s24 L xs).2.2.1 from rfl).trans ((congrArg (pu_fd 0 []) (pu_eL24 L xs)).trans (pu_fd_app 0 [] pu_oL24 _).symm)
def pu_oL26 : List (pu_It Int64) := [(92, .inl []), (91, .inl [])] ++ pu_oL25
set_option maxRecDepth 100000 in
theorem pu_eL26 (L : Nat) (xs : Nat → Int32) : (pu_s26 L xs).2.2.1 = pu_fd 0 pu_oL26 (pe_h0 L xs).2.2.1 := (show (pu_s26 L xs).2.2.1 = pu_fd 0 [(92, .inl []), (91, .inl [])] (pu_s25 L xs).2.2.1 from rfl).trans ((congrArg (pu_fd 0 [(92, .inl []), (91, .inl [])]) (pu_eL25 L xs)).trans (pu_fd_app 0 [(92, .inl []), (91, .inl [])] pu_oL25 _).symm)
def pu_oL27 : List (pu_It Int64) := [(92, .inr (5, 0)), (92, .inr (4, 0)), (92, .inr (3, 0)), (92, .inr (2, 0)), (94, .inl []), (93, .inl [])] ++ pu_oL26
set_option maxRecDepth 100000 in
theorem pu_eL27 (L : Nat) (xs : Nat → Int32) : (pu_s27 L xs).2.2.1 = pu_fd 0 pu_oL27 (pe_h0 L xs).2.2.1 := (show (pu_s27 L xs).2.2.1 = pu_fd 0 [(92, .inr (5, 0)), (92, .inr (4, 0)), (92, .inr (3, 0)), (92, .inr (2, 0)), (94, .inl []), (93, .inl [])] (pu_s26 L xs).2.2.1 from rfl).trans ((congrArg (pu_fd 0 [(92, .inr (5, 0)), (92, .inr (4, 0)), (92, .inr (3, 0)), (92, .inr (2, 0)), (94, .inl []), (93, .inl [])]) (pu_eL26 L xs)).trans (pu_fd_app 0 [(92, .inr (5, 0)), (92, .inr (4, 0)), (92, .inr (3, 0)), (92, .inr (2, 0)), (94, .inl []), (93, .inl [])] pu_oL26 _).symm)
def pu_oL28 : List (pu_It Int64) := [(95, .inl []), (92, .inr (6, 0))] ++ pu_oL27
set_option maxRecDepth 100000 in
theorem pu_eL28 (L : Nat) (xs : Nat → Int32) : (pu_s28 L xs).2.2.1 = pu_fd 0 pu_oL28 (pe_h0 L xs).2.2.1 := (show (pu_s28 L xs).2.2.1 = pu_fd 0 [(95, .inl []), (92, .inr (6, 0))] (pu_s27 L xs).2.2.1 from rfl).trans ((congrArg (pu_fd 0 [(95, .inl []), (92, .inr (6, 0))]) (pu_eL27 L xs)).trans (pu_fd_app 0 [(95, .inl []), (92, .inr (6, 0))] pu_oL27 _).symm)
def pu_oL29 : List (pu_It Int64) := [(92, .inr (13, 0))] ++ pu_oL28
set_option maxRecDepth 100000 in
theorem pu_eL29 (L : Nat) (xs : Nat → Int32) : (pu_s29 L xs).2.2.1 = pu_fd 0 pu_oL29 (pe_h0 L xs).2.2.1 := (show (pu_s29 L xs).2.2.1 = pu_fd 0 [(92, .inr (13, 0))] (pu_s28 L xs).2.2.1 from rfl).trans ((congrArg (pu_fd 0 [(92, .inr (13, 0))]) (pu_eL28 L xs)).trans (pu_fd_app 0 [(92, .inr (13, 0))] pu_oL28 _).symm)
def pu_oL30 : List (pu_It Int64) := [(98, .inl []), (97, .inl []), (96, .inl [])] ++ pu_oL29
set_option maxRecDepth 100000 in
theorem pu_eL30 (L : Nat) (xs : Nat → Int32) : (pu_s30 L xs).2.2.1 = pu_fd 0 pu_oL30 (pe_h0 L xs).2.2.1 := (show (pu_s30 L xs).2.2.1 = pu_fd 0 [(98, .inl []), (97, .inl []), (96, .inl [])] (pu_s29 L xs).2.2.1 from rfl).trans ((congrArg (pu_fd 0 [(98, .inl []), (97, .inl []), (96, .inl [])]) (pu_eL29 L xs)).trans (pu_fd_app 0 [(98, .inl []), (97, .inl []), (96, .inl [])] pu_oL29 _).symm)
def pu_oL31 : List (pu_It Int64) := [(99, .inl [])] ++ pu_oL30
set_option maxRecDepth 100000 in
theorem pu_eL31 (L : Nat) (xs : Nat → Int32) : (pu_s31 L xs).2.2.1 = pu_fd 0 pu_oL31 (pe_h0 L xs).2.2.1 := (show (pu_s31 L xs).2.2.1 = pu_fd 0 [(99, .inl [])] (pu_s30 L xs).2.2.1 from rfl).trans ((congrArg (pu_fd 0 [(99, .inl [])]) (pu_eL30 L xs)).trans (pu_fd_app 0 [(99, .inl [])] pu_oL30 _).symm)
def pu_oL32 : List (pu_It Int64) := [(99, .inr (5, 0)), (99, .inr (4, 0)), (99, .inr (3, 0)), (99, .inr (2, 0)), (101, .inl []), (100, .inl [])] ++ pu_oL31
set_option maxRecDepth 100000 in
theorem pu_eL32 (L : Nat) (xs : Nat → Int32) : (pu_s32 L xs).2.2.1 = pu_fd 0 pu_oL32 (pe_h0 L xs).2.2.1 := (show (pu_s32 L xs).2.2.1 = pu_fd 0 [(99, .inr (5, 0)), (99, .inr (4, 0)), (99, .inr (3, 0)), (99, .inr (2, 0)), (101, .inl []), (100, .inl [])] (pu_s31 L xs).2.2.1 from rfl).trans ((congrArg (pu_fd 0 [(99, .inr (5, 0)), (99, .inr (4, 0)), (99, .inr (3, 0)), (99, .inr (2, 0)), (101, .inl []), (100, .inl [])]) (pu_eL31 L xs)).trans (pu_fd_app 0 [(99, .inr (5, 0)), (99, .inr (4, 0)), (99, .inr (3, 0)), (99, .inr (2, 0)), (101, .inl []), (100, .inl [])] pu_oL31 _).symm)
def pu_oL33 : List (pu_It Int64) := [(102, .inl []), (99, .inr (6, 0))] ++ pu_oL32
set_option maxRecDepth 100000 in
theorem pu_eL33 (L : Nat) (xs : Nat → Int32) : (pu_s33 L xs).2.2.1 = pu_fd 0 pu_oL33 (pe_h0 L xs).2.2.1 := (show (pu_s33 L xs).2.2.1 = pu_fd 0 [(102, .inl []), (99, .inr (6, 0))] (pu_s32 L xs).2.2.1 from rfl).trans ((congrArg (pu_fd 0 [(102, .inl []), (99, .inr (6, 0))]) (pu_eL32 L xs)).trans (pu_fd_app 0 [(102, .inl []), (99, .inr (6, 0))] pu_oL32 _).symm)
def pu_oL34 : List (pu_It Int64) := [(99, .inr (13, 0))] ++ pu_oL33
set_option maxRecDepth 100000 in
theorem pu_eL34 (L : Nat) (xs : Nat → Int32) : (pu_s34 L xs).2.2.1 = pu_fd 0 pu_oL34 (pe_h0 L xs).2.2.1 := (show (pu_s34 L xs).2.2.1 = pu_fd 0 [(99, .inr (13, 0))] (pu_s33 L xs).2.2.1 from rfl).trans ((congrArg (pu_fd 0 [(99, .inr (13, 0))]) (pu_eL33 L xs)).trans (pu_fd_app 0 [(99, .inr (13, 0))] pu_oL33 _).symm)
def pu_oL35 : List (pu_It Int64) := [] ++ pu_oL34
set_option maxRecDepth 100000 in
theorem pu_eL35 (L : Nat) (xs : Nat → Int32) : (pu_s35 L xs).2.2.1 = pu_fd 0 pu_oL35 (pe_h0 L xs).2.2.1 := (show (pu_s35 L xs).2.2.1 = pu_fd 0 [] (pu_s34 L xs).2.2.1 from rfl).trans ((congrArg (pu_fd 0 []) (pu_eL34 L xs)).trans (pu_fd_app 0 [] pu_oL34 _).symm)
def pu_oL36 : List (pu_It Int64) := [] ++ pu_oL35
set_option maxRecDepth 100000 in
theorem pu_eL36 (L : Nat) (xs : Nat → Int32) : (pu_s36 L xs).2.2.1 = pu_fd 0 pu_oL36 (pe_h0 L xs).2.2.1 := (show (pu_s36 L xs).2.2.1 = pu_fd 0 [] (pu_s35 L xs).2.2.1 from rfl).trans ((congrArg (pu_fd 0 []) (pu_eL35 L xs)).trans (pu_fd_app 0 [] pu_oL35 _).symm)
def pu_oL37 : List (pu_It Int64) := [(104, .inl []), (103, .inl [])] ++ pu_oL36
set_option maxRecDepth 100000 in
theorem pu_eL37 (L : Nat) (xs : Nat → Int32) : (pu_s37 L xs).2.2.1 = pu_fd 0 pu_oL37 (pe_h0 L xs).2.2.1 := (show (pu_s37 L xs).2.2.1 = pu_fd 0 [(104, .inl []), (103, .inl [])] (pu_s36 L xs).2.2.1 from rfl).trans ((congrArg (pu_fd 0 [(104, .inl []), (103, .inl [])]) (pu_eL36 L xs)).trans (pu_fd_app 0 [(104, .inl []), (103, .inl [])] pu_oL36 _).symm)
def pu_oL38 : List (pu_It Int64) := [(107, .inl []), (106, .inl []), (105, .inl [])] ++ pu_oL37
set_option maxRecDepth 100000 in
theorem pu_eL38 (L : Nat) (xs : Nat → Int32) : (pu_s38 L xs).2.2.1 = pu_fd 0 pu_oL38 (pe_h0 L xs).2.2.1 := (show (pu_s38 L xs).2.2.1 = pu_fd 0 [(107, .inl []), (106, .inl []), (105, .inl [])] (pu_s37 L xs).2.2.1 from rfl).trans ((congrArg (pu_fd 0 [(107, .inl []), (106, .inl []), (105, .inl [])]) (pu_eL37 L xs)).trans (pu_fd_app 0 [(107, .inl []), (106, .inl []), (105, .inl [])] pu_oL37 _).symm)
def pu_oL39 : List (pu_It Int64) := [(108, .inl [])] ++ pu_oL38
set_option maxRecDepth 100000 in
theorem pu_eL39 (L : Nat) (xs : Nat → Int32) : (pu_s39 L xs).2.2.1 = pu_fd 0 pu_oL39 (pe_h0 L xs).2.2.1 := (show (pu_s39 L xs).2.2.1 = pu_fd 0 [(108, .inl [])] (pu_s38 L xs).2.2.1 from rfl).trans ((congrArg (pu_fd 0 [(108, .inl [])]) (pu_eL38 L xs)).trans (pu_fd_app 0 [(108, .inl [])] pu_oL38 _).symm)
def pu_oL40 : List (pu_It Int64) := [(111, .inl []), (110, .inl []), (109, .inl [])] ++ pu_oL39
set_option maxRecDepth 100000 in
theorem pu_eL40 (L : Nat) (xs : Nat → Int32) : (pu_s40 L xs).2.2.1 = pu_fd 0 pu_oL40 (pe_h0 L xs).2.2.1 := (show (pu_s40 L xs).2.2.1 = pu_fd 0 [(111, .inl []), (110, .inl []), (109, .inl [])] (pu_s39 L xs).2.2.1 from rfl).trans ((congrArg (pu_fd 0 [(111, .inl []), (110, .inl []), (109, .inl [])]) (pu_eL39 L xs)).trans (pu_fd_app 0 [(111, .inl []), (110, .inl []), (109, .inl [])] pu_oL39 _).symm)
def pu_oL41 : List (pu_It Int64) := [(112, .inl [])] ++ pu_oL40
set_option maxRecDepth 100000 in
theorem pu_eL41 (L : Nat) (xs : Nat → Int32) : (pu_s41 L xs).2.2.1 = pu_fd 0 pu_oL41 (pe_h0 L xs).2.2.1 := (show (pu_s41 L xs).2.2.1 = pu_fd 0 [(112, .inl [])] (pu_s40 L xs).2.2.1 from rfl).trans ((congrArg (pu_fd 0 [(112, .inl [])]) (pu_eL40 L xs)).trans (pu_fd_app 0 [(112, .inl [])] pu_oL40 _).symm)
def pu_oL42 : List (pu_It Int64) := [(116, .inl []), (115, .inl []), (114, .inl []), (113, .inl [])] ++ pu_oL41
set_option maxRecDepth 100000 in
theorem pu_eL42 (L : Nat) (xs : Nat → Int32) : (pu_s42 L xs).2.2.1 = pu_fd 0 pu_oL42 (pe_h0 L xs).2.2.1 := (show (pu_s42 L xs).2.2.1 = pu_fd 0 [(116, .inl []), (115, .inl []), (114, .inl []), (113, .inl [])] (pu_s41 L xs).2.2.1 from rfl).trans ((congrArg (pu_fd 0 [(116, .inl []), (115, .inl []), (114, .inl []), (113, .inl [])]) (pu_eL41 L xs)).trans (pu_fd_app 0 [(116, .inl []), (115, .inl []), (114, .inl []), (113, .inl [])] pu_oL41 _).symm)
def pu_oL43 : List (pu_It Int64) := [] ++ pu_oL42
set_option maxRecDepth 100000 in
theorem pu_eL43 (L : Nat) (xs : Nat → Int32) : (pu_s43 L xs).2.2.1 = pu_fd 0 pu_oL43 (pe_h0 L xs).2.2.1 := (show (pu_s43 L xs).2.2.1 = pu_fd 0 [] (pu_s42 L xs).2.2.1 from rfl).trans ((congrArg (pu_fd 0 []) (pu_eL42 L xs)).trans (pu_fd_app 0 [] pu_oL42 _).symm)
def pu_oL44 : List (pu_It Int64) := [(117, .inl [])] ++ pu_oL43
set_option maxRecDepth 100000 in
theorem pu_eL44 (L : Nat) (xs : Nat → Int32) : (pu_s44 L xs).2.2.1 = pu_fd 0 pu_oL44 (pe_h0 L xs).2.2.1 := (show (pu_s44 L xs).2.2.1 = pu_fd 0 [(117, .inl [])] (pu_s43 L xs).2.2.1 from rfl).trans ((congrArg (pu_fd 0 [(117, .inl [])]) (pu_eL43 L xs)).trans (pu_fd_app 0 [(117, .inl [])] pu_oL43 _).symm)
def pu_oL45 : List (pu_It Int64) := [(120, .inl []), (119, .inl []), (118, .inl [])] ++ pu_oL44
set_option maxRecDepth 100000 in
theorem pu_eL45 (L : Nat) (xs : Nat → Int32) : (pu_s45 L xs).2.2.1 = pu_fd 0 pu_oL45 (pe_h0 L xs).2.2.1 := (show (pu_s45 L xs).2.2.1 = pu_fd 0 [(120, .inl []), (119, .inl []), (118, .inl [])] (pu_s44 L xs).2.2.1 from rfl).trans ((congrArg (pu_fd 0 [(120, .inl []), (119, .inl []), (118, .inl [])]) (pu_eL44 L xs)).trans (pu_fd_app 0 [(120, .inl []), (119, .inl []), (118, .inl [])] pu_oL44 _).symm)
def pu_oL46 : List (pu_It Int64) := [(124, .inl []), (123, .inl []), (122, .inl []), (121, .inl [])] ++ pu_oL45
set_option maxRecDepth 100000 in
theorem pu_eL46 (L : Nat) (xs : Nat → Int32) : (pu_s46 L xs).2.2.1 = pu_fd 0 pu_oL46 (pe_h0 L xs).2.2.1 := (show (pu_s46 L xs).2.2.1 = pu_fd 0 [(124, .inl []), (123, .inl []), (122, .inl []), (121, .inl [])] (pu_s45 L xs).2.2.1 from rfl).trans ((congrArg (pu_fd 0 [(124, .inl []), (123, .inl []), (122, .inl []), (121, .inl [])]) (pu_eL45 L xs)).trans (pu_fd_app 0 [(124, .inl []), (123, .inl []), (122, .inl []), (121, .inl [])] pu_oL45 _).symm)
def pu_oL47 : List (pu_It Int64) := [] ++ pu_oL46
set_option maxRecDepth 100000 in
theorem pu_eL47 (L : Nat) (xs : Nat → Int32) : (pu_s47 L xs).2.2.1 = pu_fd 0 pu_oL47 (pe_h0 L xs).2.2.1 := (show (pu_s47 L xs).2.2.1 = pu_fd 0 [] (pu_s46 L xs).2.2.1 from rfl).trans ((congrArg (pu_fd 0 []) (pu_eL46 L xs)).trans (pu_fd_app 0 [] pu_oL46 _).symm)
def pu_oL48 : List (pu_It Int64) := [(125, .inl [])] ++ pu_oL47
set_option maxRecDepth 100000 in
theorem pu_eL48 (L : Nat) (xs : Nat → Int32) : (pu_s48 L xs).2.2.1 = pu_fd 0 pu_oL48 (pe_h0 L xs).2.2.1 := (show (pu_s48 L xs).2.2.1 = pu_fd 0 [(125, .inl [])] (pu_s47 L xs).2.2.1 from rfl).trans ((congrArg (pu_fd 0 [(125, .inl [])]) (pu_eL47 L xs)).trans (pu_fd_app 0 [(125, .inl [])] pu_oL47 _).symm)
def pu_oL49 : List (pu_It Int64) := [(128, .inl []), (127, .inl []), (126, .inl [])] ++ pu_oL48
set_option maxRecDepth 100000 in
theorem pu_eL49 (L : Nat) (xs : Nat → Int32) : (pu_s49 L xs).2.2.1 = pu_fd 0 pu_oL49 (pe_h0 L xs).2.2.1 := (show (pu_s49 L xs).2.2.1 = pu_fd 0 [(128, .inl []), (127, .inl []), (126, .inl [])] (pu_s48 L xs).2.2.1 from rfl).trans ((congrArg (pu_fd 0 [(128, .inl []), (127, .inl []), (126, .inl [])]) (pu_eL48 L xs)).trans (pu_fd_app 0 [(128, .inl []), (127, .inl []), (126, .inl [])] pu_oL48 _).symm)
def pu_oL50 : List (pu_It Int64) := [(130, .inl []), (129, .inl [])] ++ pu_oL49
set_option maxRecDepth 100000 in
theorem pu_eL50 (L : Nat) (xs : Nat → Int32) : (pu_s50 L xs).2.2.1 = pu_fd 0 pu_oL50 (pe_h0 L xs).2.2.1 := (show (pu_s50 L xs).2.2.1 = pu_fd 0 [(130, .inl []), (129, .inl [])] (pu_s49 L xs).2.2.1 from rfl).trans ((congrArg (pu_fd 0 [(130, .inl []), (129, .inl [])]) (pu_eL49 L xs)).trans (pu_fd_app 0 [(130, .inl []), (129, .inl [])] pu_oL49 _).symm)
def pu_oL51 : List (pu_It Int64) := [(133, .inl []), (132, .inl []), (131, .inl [])] ++ pu_oL50
set_option maxRecDepth 100000 in
theorem pu_eL51 (L : Nat) (xs : Nat → Int32) : (pu_s51 L xs).2.2.1 = pu_fd 0 pu_oL51 (pe_h0 L xs).2.2.1 := (show (pu_s51 L xs).2.2.1 = pu_fd 0 [(133, .inl []), (132, .inl []), (131, .inl [])] (pu_s50 L xs).2.2.1 from rfl).trans ((congrArg (pu_fd 0 [(133, .inl []), (132, .inl []), (131, .inl [])]) (pu_eL50 L xs)).trans (pu_fd_app 0 [(133, .inl []), (132, .inl []), (131, .inl [])] pu_oL50 _).symm)
def pu_oL52 : List (pu_It Int64) := [(133, .inr (3, 1152921504606846976))] ++ pu_oL51
set_option maxRecDepth 100000 in
theorem pu_eL52 (L : Nat) (xs : Nat → Int32) : (pu_s52 L xs).2.2.1 = pu_fd 0 pu_oL52 (pe_h0 L xs).2.2.1 := (show (pu_s52 L xs).2.2.1 = pu_fd 0 [(133, .inr (3, 1152921504606846976))] (pu_s51 L xs).2.2.1 from rfl).trans ((congrArg (pu_fd 0 [(133, .inr (3, 1152921504606846976))]) (pu_eL51 L xs)).trans (pu_fd_app 0 [(133, .inr (3, 1152921504606846976))] pu_oL51 _).symm)
def pu_oL53 : List (pu_It Int64) := [(134, .inl [])] ++ pu_oL52
set_option maxRecDepth 100000 in
theorem pu_eL53 (L : Nat) (xs : Nat → Int32) : (pu_s53 L xs).2.2.1 = pu_fd 0 pu_oL53 (pe_h0 L xs).2.2.1 := (show (pu_s53 L xs).2.2.1 = pu_fd 0 [(134, .inl [])] (pu_s52 L xs).2.2.1 from rfl).trans ((congrArg (pu_fd 0 [(134, .inl [])]) (pu_eL52 L xs)).trans (pu_fd_app 0 [(134, .inl [])] pu_oL52 _).symm)
def pu_oL54 : List (pu_It Int64) := [(134, .inr (3, 1152921504606846976))] ++ pu_oL53
set_option maxRecDepth 100000 in
theorem pu_eL54 (L : Nat) (xs : Nat → Int32) : (pu_s54 L xs).2.2.1 = pu_fd 0 pu_oL54 (pe_h0 L xs).2.2.1 := (show (pu_s54 L xs).2.2.1 = pu_fd 0 [(134, .inr (3, 1152921504606846976))] (pu_s53 L xs).2.2.1 from rfl).trans ((congrArg (pu_fd 0 [(134, .inr (3, 1152921504606846976))]) (pu_eL53 L xs)).trans (pu_fd_app 0 [(134, .inr (3, 1152921504606846976))] pu_oL53 _).symm)
def pu_oL55 : List (pu_It Int64) := [(135, .inl [])] ++ pu_oL54
set_option maxRecDepth 100000 in
theorem pu_eL55 (L : Nat) (xs : Nat → Int32) : (pu_s55 L xs).2.2.1 = pu_fd 0 pu_oL55 (pe_h0 L xs).2.2.1 := (show (pu_s55 L xs).2.2.1 = pu_fd 0 [(135, .inl [])] (pu_s54 L xs).2.2.1 from rfl).trans ((congrArg (pu_fd 0 [(135, .inl [])]) (pu_eL54 L xs)).trans (pu_fd_app 0 [(135, .inl [])] pu_oL54 _).symm)
def pu_oL56 : List (pu_It Int64) := [(135, .inr (3, 1152921504606846976))] ++ pu_oL55
set_option maxRecDepth 100000 in
theorem pu_eL56 (L : Nat) (xs : Nat → Int32) : (pu_s56 L xs).2.2.1 = pu_fd 0 pu_oL56 (pe_h0 L xs).2.2.1 := (show (pu_s56 L xs).2.2.1 = pu_fd 0 [(135, .inr (3, 1152921504606846976))] (pu_s55 L xs).2.2.1 from rfl).trans ((congrArg (pu_fd 0 [(135, .inr (3, 1152921504606846976))]) (pu_eL55 L xs)).trans (pu_fd_app 0 [(135, .inr (3, 1152921504606846976))] pu_oL55 _).symm)
def pu_oL57 : List (pu_It Int64) := [(136, .inl [])] ++ pu_oL56
set_option maxRecDepth 100000 in
theorem pu_eL57 (L : Nat) (xs : Nat → Int32) : (pu_s57 L xs).2.2.1 = pu_fd 0 pu_oL57 (pe_h0 L xs).2.2.1 := (show (pu_s57 L xs).2.2.1 = pu_fd 0 [(136, .inl [])] (pu_s56 L xs).2.2.1 from rfl).trans ((congrArg (pu_fd 0 [(136, .inl [])]) (pu_eL56 L xs)).trans (pu_fd_app 0 [(136, .inl [])] pu_oL56 _).symm)
def pu_oL58 : List (pu_It Int64) := [(136, .inr (3, 1152921504606846976))] ++ pu_oL57
set_option maxRecDepth 100000 in
theorem pu_eL58 (L : Nat) (xs : Nat → Int32) : (pu_s58 L xs).2.2.1 = pu_fd 0 pu_oL58 (pe_h0 L xs).2.2.1 := (show (pu_s58 L xs).2.2.1 = pu_fd 0 [(136, .inr (3, 1152921504606846976))] (pu_s57 L xs).2.2.1 from rfl).trans ((congrArg (pu_fd 0 [(136, .inr (3, 1152921504606846976))]) (pu_eL57 L xs)).trans (pu_fd_app 0 [(136, .inr (3, 1152921504606846976))] pu_oL57 _).symm)
def pu_oL59 : List (pu_It Int64) := [(137, .inl [])] ++ pu_oL58
set_option maxRecDepth 100000 in
theorem pu_eL59 (L : Nat) (xs : Nat → Int32) : (pu_s59 L xs).2.2.1 = pu_fd 0 pu_oL59 (pe_h0 L xs).2.2.1 := (show (pu_s59 L xs).2.2.1 = pu_fd 0 [(137, .inl [])] (pu_s58 L xs).2.2.1 from rfl).trans ((congrArg (pu_fd 0 [(137, .inl [])]) (pu_eL58 L xs)).trans (pu_fd_app 0 [(137, .inl [])] pu_oL58 _).symm)
def pu_oL60 : List (pu_It Int64) := [(137, .inr (5, 0)), (137, .inr (4, 0)), (137, .inr (3, 0)), (137, .inr (2, 0)), (139, .inl []), (138, .inl [])] ++ pu_oL59
set_option maxRecDepth 100000 in
theorem pu_eL60 (L : Nat) (xs : Nat → Int32) : (pu_s60 L xs).2.2.1 = pu_fd 0 pu_oL60 (pe_h0 L xs).2.2.1 := (show (pu_s60 L xs).2.2.1 = pu_fd 0 [(137, .inr (5, 0)), (137, .inr (4, 0)), (137, .inr (3, 0)), (137, .inr (2, 0)), (139, .inl []), (138, .inl [])] (pu_s59 L xs).2.2.1 from rfl).trans ((congrArg (pu_fd 0 [(137, .inr (5, 0)), (137, .inr (4, 0)), (137, .inr (3, 0)), (137, .inr (2, 0)), (139, .inl []), (138, .inl [])]) (pu_eL59 L xs)).trans (pu_fd_app 0 [(137, .inr (5, 0)), (137, .inr (4, 0)), (137, .inr (3, 0)), (137, .inr (2, 0)), (139, .inl []), (138, .inl [])] pu_oL59 _).symm)
def pu_oL61 : List (pu_It Int64) := [(140, .inl []), (137, .inr (6, 0))] ++ pu_oL60
set_option maxRecDepth 100000 in
theorem pu_eL61 (L : Nat) (xs : Nat → Int32) : (pu_s61 L xs).2.2.1 = pu_fd 0 pu_oL61 (pe_h0 L xs).2.2.1 := (show (pu_s61 L xs).2.2.1 = pu_fd 0 [(140, .inl []), (137, .inr (6, 0))] (pu_s60 L xs).2.2.1 from rfl).trans ((congrArg (pu_fd 0 [(140, .inl []), (137, .inr (6, 0))]) (pu_eL60 L xs)).trans (pu_fd_app 0 [(140, .inl []), (137, .inr (6, 0))] pu_oL60 _).symm)
def pu_oL62 : List (pu_It Int64) := [(137, .inr (13, 0))] ++ pu_oL61
set_option maxRecDepth 100000 in
theorem pu_eL62 (L : Nat) (xs : Nat → Int32) : (pu_s62 L xs).2.2.1 = pu_fd 0 pu_oL62 (pe_h0 L xs).2.2.1 := (show (pu_s62 L xs).2.2.1 = pu_fd 0 [(137, .inr (13, 0))] (pu_s61 L xs).2.2.1 from rfl).trans ((congrArg (pu_fd 0 [(137, .inr (13, 0))]) (pu_eL61 L xs)).trans (pu_fd_app 0 [(137, .inr (13, 0))] pu_oL61 _).symm)
def pu_oL63 : List (pu_It Int64) := [(141, .inl [])] ++ pu_oL62
set_option maxRecDepth 100000 in
theorem pu_eL63 (L : Nat) (xs : Nat → Int32) : (pu_s63 L xs).2.2.1 = pu_fd 0 pu_oL63 (pe_h0 L xs).2.2.1 := (show (pu_s63 L xs).2.2.1 = pu_fd 0 [(141, .inl [])] (pu_s62 L xs).2.2.1 from rfl).trans ((congrArg (pu_fd 0 [(141, .inl [])]) (pu_eL62 L xs)).trans (pu_fd_app 0 [(141, .inl [])] pu_oL62 _).symm)
def pu_oL64 : List (pu_It Int64) := [(141, .inr (5, 0)), (141, .inr (4, 0)), (141, .inr (3, 0)), (141, .inr (2, 0)), (143, .inl []), (142, .inl [])] ++ pu_oL63
set_option maxRecDepth 100000 in
theorem pu_eL64 (L : Nat) (xs : Nat → Int32) : (pu_s64 L xs).2.2.1 = pu_fd 0 pu_oL64 (pe_h0 L xs).2.2.1 := (show (pu_s64 L xs).2.2.1 = pu_fd 0 [(141, .inr (5, 0)), (141, .inr (4, 0)), (141, .inr (3, 0)), (141, .inr (2, 0)), (143, .inl []), (142, .inl [])] (pu_s63 L xs).2.2.1 from rfl).trans ((congrArg (pu_fd 0 [(141, .inr (5, 0)), (141, .inr (4, 0)), (141, .inr (3, 0)), (141, .inr (2, 0)), (143, .inl []), (142, .inl [])]) (pu_eL63 L xs)).trans (pu_fd_app 0 [(141, .inr (5, 0)), (141, .inr (4, 0)), (141, .inr (3, 0)), (141, .inr (2, 0)), (143, .inl []), (142, .inl [])] pu_oL63 _).symm)
def pu_oL65 : List (pu_It Int64) := [(144, .inl []), (141, .inr (6, 0))] ++ pu_oL64
set_option maxRecDepth 100000 in
theorem pu_eL65 (L : Nat) (xs : Nat → Int32) : (pu_s65 L xs).2.2.1 = pu_fd 0 pu_oL65 (pe_h0 L xs).2.2.1 := (show (pu_s65 L xs).2.2.1 = pu_fd 0 [(144, .inl []), (141, .inr (6, 0))] (pu_s64 L xs).2.2.1 from rfl).trans ((congrArg (pu_fd 0 [(144, .inl []), (141, .inr (6, 0))]) (pu_eL64 L xs)).trans (pu_fd_app 0 [(144, .inl []), (141, .inr (6, 0))] pu_oL64 _).symm)
def pu_oL66 : List (pu_It Int64) := [(141, .inr (13, 0))] ++ pu_oL65
set_option maxRecDepth 100000 in
theorem pu_eL66 (L : Nat) (xs : Nat → Int32) : (pu_s66 L xs).2.2.1 = pu_fd 0 pu_oL66 (pe_h0 L xs).2.2.1 := (show (pu_s66 L xs).2.2.1 = pu_fd 0 [(141, .inr (13, 0))] (pu_s65 L xs).2.2.1 from rfl).trans ((congrArg (pu_fd 0 [(141, .inr (13, 0))]) (pu_eL65 L xs)).trans (pu_fd_app 0 [(141, .inr (13, 0))] pu_oL65 _).symm)
def pu_oL67 : List (pu_It Int64) := [] ++ pu_oL66
set_option maxRecDepth 100000 in
theorem pu_eL67 (L : Nat) (xs : Nat → Int32) : (pu_s67 L xs).2.2.1 = pu_fd 0 pu_oL67 (pe_h0 L xs).2.2.1 := (show (pu_s67 L xs).2.2.1 = pu_fd 0 [] (pu_s66 L xs).2.2.1 from rfl).trans ((congrArg (pu_fd 0 []) (pu_eL66 L xs)).trans (pu_fd_app 0 [] pu_oL66 _).symm)
def pu_oL68 : List (pu_It Int64) := [(145, .inl [])] ++ pu_oL67
set_option maxRecDepth 100000 in
theorem pu_eL68 (L : Nat) (xs : Nat → Int32) : (pu_s68 L xs).2.2.1 = pu_fd 0 pu_oL68 (pe_h0 L xs).2.2.1 := (show (pu_s68 L xs).2.2.1 = pu_fd 0 [(145, .inl [])] (pu_s67 L xs).2.2.1 from rfl).trans ((congrArg (pu_fd 0 [(145, .inl [])]) (pu_eL67 L xs)).trans (pu_fd_app 0 [(145, .inl [])] pu_oL67 _).symm)
def pu_oL69 : List (pu_It Int64) := [(149, .inl []), (148, .inl []), (147, .inl []), (146, .inl [])] ++ pu_oL68
set_option maxRecDepth 100000 in
theorem pu_eL69 (L : Nat) (xs : Nat → Int32) : (pu_s69 L xs).2.2.1 = pu_fd 0 pu_oL69 (pe_h0 L xs).2.2.1 := (show (pu_s69 L xs).2.2.1 = pu_fd 0 [(149, .inl []), (148, .inl []), (147, .inl []), (146, .inl [])] (pu_s68 L xs).2.2.1 from rfl).trans ((congrArg (pu_fd 0 [(149, .inl []), (148, .inl []), (147, .inl []), (146, .inl [])]) (pu_eL68 L xs)).trans (pu_fd_app 0 [(149, .inl []), (148, .inl []), (147, .inl []), (146, .inl [])] pu_oL68 _).symm)
def pu_oL70 : List (pu_It Int64) := [(153, .inl []), (152, .inl []), (151, .inl []), (150, .inl [])] ++ pu_oL69
set_option maxRecDepth 100000 in
theorem pu_eL70 (L : Nat) (xs : Nat → Int32) : (pu_s70 L xs).2.2.1 = pu_fd 0 pu_oL70 (pe_h0 L xs).2.2.1 := (show (pu_s70 L xs).2.2.1 = pu_fd 0 [(153, .inl []), (152, .inl []), (151, .inl []), (150, .inl [])] (pu_s69 L xs).2.2.1 from rfl).trans ((congrArg (pu_fd 0 [(153, .inl []), (152, .inl []), (151, .inl []), (150, .inl [])]) (pu_eL69 L xs)).trans (pu_fd_app 0 [(153, .inl []), (152, .inl []), (151, .inl []), (150, .inl [])] pu_oL69 _).symm)
def pu_oL71 : List (pu_It Int64) := [(157, .inl []), (156, .inl []), (155, .inl []), (154, .inl [])] ++ pu_oL70
set_option maxRecDepth 100000 in
theorem pu_eL71 (L : Nat) (xs : Nat → Int32) : (pu_s71 L xs).2.2.1 = pu_fd 0 pu_oL71 (pe_h0 L xs).2.2.1 := (show (pu_s71 L xs).2.2.1 = pu_fd 0 [(157, .inl []), (156, .inl []), (155, .inl []), (154, .inl [])] (pu_s70 L xs).2.2.1 from rfl).trans ((congrArg (pu_fd 0 [(157, .inl []), (156, .inl []), (155, .inl []), (154, .inl [])]) (pu_eL70 L xs)).trans (pu_fd_app 0 [(157, .inl []), (156, .inl []), (155, .inl []), (154, .inl [])] pu_oL70 _).symm)
def pu_oL72 : List (pu_It Int64) := [(161, .inl []), (160, .inl []), (159, .inl []), (158, .inl [])] ++ pu_oL71
set_option maxRecDepth 100000 in
theorem pu_eL72 (L : Nat) (xs : Nat → Int32) : (pu_s72 L xs).2.2.1 = pu_fd 0 pu_oL72 (pe_h0 L xs).2.2.1 := (show (pu_s72 L xs).2.2.1 = pu_fd 0 [(161, .inl []), (160, .inl []), (159, .inl []), (158, .inl [])] (pu_s71 L xs).2.2.1 from rfl).trans ((congrArg (pu_fd 0 [(161, .inl []), (160, .inl []), (159, .inl []), (158, .inl [])]) (pu_eL71 L xs)).trans (pu_fd_app 0 [(161, .inl []), (160, .inl []), (159, .inl []), (158, .inl [])] pu_oL71 _).symm)
def pu_oL73 : List (pu_It Int64) := [(165, .inl []), (164, .inl []), (163, .inl []), (162, .inl [])] ++ pu_oL72
set_option maxRecDepth 100000 in
theorem pu_eL73 (L : Nat) (xs : Nat → Int32) : (pu_s73 L xs).2.2.1 = pu_fd 0 pu_oL73 (pe_h0 L xs).2.2.1 := (show (pu_s73 L xs).2.2.1 = pu_fd 0 [(165, .inl []), (164, .inl []), (163, .inl []), (162, .inl [])] (pu_s72 L xs).2.2.1 from rfl).trans ((congrArg (pu_fd 0 [(165, .inl []), (164, .inl []), (163, .inl []), (162, .inl [])]) (pu_eL72 L xs)).trans (pu_fd_app 0 [(165, .inl []), (164, .inl []), (163, .inl []), (162, .inl [])] pu_oL72 _).symm)
def pu_oL74 : List (pu_It Int64) := [(169, .inl []), (168, .inl []), (167, .inl []), (166, .inl [])] ++ pu_oL73
set_option maxRecDepth 100000 in
theorem pu_eL74 (L : Nat) (xs : Nat → Int32) : (pu_s74 L xs).2.2.1 = pu_fd 0 pu_oL74 (pe_h0 L xs).2.2.1 := (show (pu_s74 L xs).2.2.1 = pu_fd 0 [(169, .inl []), (168, .inl []), (167, .inl []), (166, .inl [])] (pu_s73 L xs).2.2.1 from rfl).trans ((congrArg (pu_fd 0 [(169, .inl []), (168, .inl []), (167, .inl []), (166, .inl [])]) (pu_eL73 L xs)).trans (pu_fd_app 0 [(169, .inl []), (168, .inl []), (167, .inl []), (166, .inl [])] pu_oL73 _).symm)
def pu_oL75 : List (pu_It Int64) := [(173, .inl []), (172, .inl []), (171, .inl []), (170, .inl [])] ++ pu_oL74
set_option maxRecDepth 100000 in
theorem pu_eL75 (L : Nat) (xs : Nat → Int32) : (pu_s75 L xs).2.2.1 = pu_fd 0 pu_oL75 (pe_h0 L xs).2.2.1 := (show (pu_s75 L xs).2.2.1 = pu_fd 0 [(173, .inl []), (172, .inl []), (171, .inl []), (170, .inl [])] (pu_s74 L xs).2.2.1 from rfl).trans ((congrArg (pu_fd 0 [(173, .inl []), (172, .inl []), (171, .inl []), (170, .inl [])]) (pu_eL74 L xs)).trans (pu_fd_app 0 [(173, .inl []), (172, .inl []), (171, .inl []), (170, .inl [])] pu_oL74 _).symm)
def pu_oL76 : List (pu_It Int64) := [(177, .inl []), (176, .inl []), (175, .inl []), (174, .inl [])] ++ pu_oL75
set_option maxRecDepth 100000 in
theorem pu_eL76 (L : Nat) (xs : Nat → Int32) : (pu_s76 L xs).2.2.1 = pu_fd 0 pu_oL76 (pe_h0 L xs).2.2.1 := (show (pu_s76 L xs).2.2.1 = pu_fd 0 [(177, .inl []), (176, .inl []), (175, .inl []), (174, .inl [])] (pu_s75 L xs).2.2.1 from rfl).trans ((congrArg (pu_fd 0 [(177, .inl []), (176, .inl []), (175, .inl []), (174, .inl [])]) (pu_eL75 L xs)).trans (pu_fd_app 0 [(177, .inl []), (176, .inl []), (175, .inl []), (174, .inl [])] pu_oL75 _).symm)
def pu_oL77 : List (pu_It Int64) := [(181, .inl []), (180, .inl []), (179, .inl []), (178, .inl [])] ++ pu_oL76
set_option maxRecDepth 100000 in
theorem pu_eL77 (L : Nat) (xs : Nat → Int32) : (pu_s77 L xs).2.2.1 = pu_fd 0 pu_oL77 (pe_h0 L xs).2.2.1 := (show (pu_s77 L xs).2.2.1 = pu_fd 0 [(181, .inl []), (180, .inl []), (179, .inl []), (178, .inl [])] (pu_s76 L xs).2.2.1 from rfl).trans ((congrArg (pu_fd 0 [(181, .inl []), (180, .inl []), (179, .inl []), (178, .inl [])]) (pu_eL76 L xs)).trans (pu_fd_app 0 [(181, .inl []), (180, .inl []), (179, .inl []), (178, .inl [])] pu_oL76 _).symm)
def pu_oL78 : List (pu_It Int64) := [(146, .inr (27, 8)), (146, .inr (26, 8))] ++ pu_oL77
set_option maxRecDepth 100000 in
theorem pu_eL78 (L : Nat) (xs : Nat → Int32) : (pu_s78 L xs).2.2.1 = pu_fd 0 pu_oL78 (pe_h0 L xs).2.2.1 := (show (pu_s78 L xs).2.2.1 = pu_fd 0 [(146, .inr (27, 8)), (146, .inr (26, 8))] (pu_s77 L xs).2.2.1 from rfl).trans ((congrArg (pu_fd 0 [(146, .inr (27, 8)), (146, .inr (26, 8))]) (pu_eL77 L xs)).trans (pu_fd_app 0 [(146, .inr (27, 8)), (146, .inr (26, 8))] pu_oL77 _).symm)
def pu_oL79 : List (pu_It Int64) := [] ++ pu_oL78
set_option maxRecDepth 100000 in
theorem pu_eL79 (L : Nat) (xs : Nat → Int32) : (pu_s79 L xs).2.2.1 = pu_fd 0 pu_oL79 (pe_h0 L xs).2.2.1 := (show (pu_s79 L xs).2.2.1 = pu_fd 0 [] (pu_s78 L xs).2.2.1 from rfl).trans ((congrArg (pu_fd 0 []) (pu_eL78 L xs)).trans (pu_fd_app 0 [] pu_oL78 _).symm)
def pu_oL80 : List (pu_It Int64) := [] ++ pu_oL79
set_option maxRecDepth 100000 in
theorem pu_eL80 (L : Nat) (xs : Nat → Int32) : (pu_s80 L xs).2.2.1 = pu_fd 0 pu_oL80 (pe_h0 L xs).2.2.1 := (show (pu_s80 L xs).2.2.1 = pu_fd 0 [] (pu_s79 L xs).2.2.1 from rfl).trans ((congrArg (pu_fd 0 []) (pu_eL79 L xs)).trans (pu_fd_app 0 [] pu_oL79 _).symm)
def pu_oL81 : List (pu_It Int64) := [] ++ pu_oL80
set_option maxRecDepth 100000 in
theorem pu_eL81 (L : Nat) (xs : Nat → Int32) : (pu_s81 L xs).2.2.1 = pu_fd 0 pu_oL81 (pe_h0 L xs).2.2.1 := (show (pu_s81 L xs).2.2.1 = pu_fd 0 [] (pu_s80 L xs).2.2.1 from rfl).trans ((congrArg (pu_fd 0 []) (pu_eL80 L xs)).trans (pu_fd_app 0 [] pu_oL80 _).symm)
def pu_oL82 : List (pu_It Int64) := [] ++ pu_oL81
set_option maxRecDepth 100000 in
theorem pu_eL82 (L : Nat) (xs : Nat → Int32) : (pu_s82 L xs).2.2.1 = pu_fd 0 pu_oL82 (pe_h0 L xs).2.2.1 := (show (pu_s82 L xs).2.2.1 = pu_fd 0 [] (pu_s81 L xs).2.2.1 from rfl).trans ((congrArg (pu_fd 0 []) (pu_eL81 L xs)).trans (pu_fd_app 0 [] pu_oL81 _).symm)
def pu_oL83 : List (pu_It Int64) := [] ++ pu_oL82
set_option maxRecDepth 100000 in
theorem pu_eL83 (L : Nat) (xs : Nat → Int32) : (pu_s83 L xs).2.2.1 = pu_fd 0 pu_oL83 (pe_h0 L xs).2.2.1 := (show (pu_s83 L xs).2.2.1 = pu_fd 0 [] (pu_s82 L xs).2.2.1 from rfl).trans ((congrArg (pu_fd 0 []) (pu_eL82 L xs)).trans (pu_fd_app 0 [] pu_oL82 _).symm)
def pu_oL84 : List (pu_It Int64) := [] ++ pu_oL83
set_option maxRecDepth 100000 in
theorem pu_eL84 (L : Nat) (xs : Nat → Int32) : (pu_s84 L xs).2.2.1 = pu_fd 0 pu_oL84 (pe_h0 L xs).2.2.1 := (show (pu_s84 L xs).2.2.1 = pu_fd 0 [] (pu_s83 L xs).2.2.1 from rfl).trans ((congrArg (pu_fd 0 []) (pu_eL83 L xs)).trans (pu_fd_app 0 [] pu_oL83 _).symm)
def pu_oL85 : List (pu_It Int64) := [] ++ pu_oL84
set_option maxRecDepth 100000 in
theorem pu_eL85 (L : Nat) (xs : Nat → Int32) : (pu_s85 L xs).2.2.1 = pu_fd 0 pu_oL85 (pe_h0 L xs).2.2.1 := (show (pu_s85 L xs).2.2.1 = pu_fd 0 [] (pu_s84 L xs).2.2.1 from rfl).trans ((congrArg (pu_fd 0 []) (pu_eL84 L xs)).trans (pu_fd_app 0 [] pu_oL84 _).symm)
def pu_oL86 : List (pu_It Int64) := [] ++ pu_oL85
set_option maxRecDepth 100000 in
theorem pu_eL86 (L : Nat) (xs : Nat → Int32) : (pu_s86 L xs).2.2.1 = pu_fd 0 pu_oL86 (pe_h0 L xs).2.2.1 := (show (pu_s86 L xs).2.2.1 = pu_fd 0 [] (pu_s85 L xs).2.2.1 from rfl).trans ((congrArg (pu_fd 0 []) (pu_eL85 L xs)).trans (pu_fd_app 0 [] pu_oL85 _).symm)
def pu_oL87 : List (pu_It Int64) := [] ++ pu_oL86
set_option maxRecDepth 100000 in
theorem pu_eL87 (L : Nat) (xs : Nat → Int32) : (pu_s87 L xs).2.2.1 = pu_fd 0 pu_oL87 (pe_h0 L xs).2.2.1 := (show (pu_s87 L xs).2.2.1 = pu_fd 0 [] (pu_s86 L xs).2.2.1 from rfl).trans ((congrArg (pu_fd 0 []) (pu_eL86 L xs)).trans (pu_fd_app 0 [] pu_oL86 _).symm)
def pu_oR0 : List (pu_It (Option Nat)) := []
theorem pu_eR0 (L : Nat) (xs : Nat → Int32) : (pu_s0 L xs).2.2.2 = pu_fd none pu_oR0 (pe_h0 L xs).2.2.2 := rfl
def pu_oR1 : List (pu_It (Option Nat)) := [(48, .inl [])] ++ pu_oR0
set_option maxRecDepth 100000 in
theorem pu_eR1 (L : Nat) (xs : Nat → Int32) : (pu_s1 L xs).2.2.2 = pu_fd none pu_oR1 (pe_h0 L xs).2.2.2 := (show (pu_s1 L xs).2.2.2 = pu_fd none [(48, .inl [])] (pu_s0 L xs).2.2.2 from rfl).trans ((congrArg (pu_fd none [(48, .inl [])]) (pu_eR0 L xs)).trans (pu_fd_app none [(48, .inl [])] pu_oR0 _).symm)
def pu_oR2 : List (pu_It (Option Nat)) := [(49, .inl [])] ++ pu_oR1
set_option maxRecDepth 100000 in
theorem pu_eR2 (L : Nat) (xs : Nat → Int32) : (pu_s2 L xs).2.2.2 = pu_fd none pu_oR2 (pe_h0 L xs).2.2.2 := (show (pu_s2 L xs).2.2.2 = pu_fd none [(49, .inl [])] (pu_s1 L xs).2.2.2 from rfl).trans ((congrArg (pu_fd none [(49, .inl [])]) (pu_eR1 L xs)).trans (pu_fd_app none [(49, .inl [])] pu_oR1 _).symm)
def pu_oR3 : List (pu_It (Option Nat)) := [(49, .inr (0, some 50)), (50, .inl [])] ++ pu_oR2
set_option maxRecDepth 100000 in
theorem pu_eR3 (L : Nat) (xs : Nat → Int32) : (pu_s3 L xs).2.2.2 = pu_fd none pu_oR3 (pe_h0 L xs).2.2.2 := (show (pu_s3 L xs).2.2.2 = pu_fd none [(49, .inr (0, some 50)), (50, .inl [])] (pu_s2 L xs).2.2.2 from rfl).trans ((congrArg (pu_fd none [(49, .inr (0, some 50)), (50, .inl [])]) (pu_eR2 L xs)).trans (pu_fd_app none [(49, .inr (0, some 50)), (50, .inl [])] pu_oR2 _).symm)
def pu_oR4 : List (pu_It (Option Nat)) := [(51, .inl []), (48, .inr (0, some 49))] ++ pu_oR3
set_option maxRecDepth 100000 in
theorem pu_eR4 (L : Nat) (xs : Nat → Int32) : (pu_s4 L xs).2.2.2 = pu_fd none pu_oR4 (pe_h0 L xs).2.2.2 := (show (pu_s4 L xs).2.2.2 = pu_fd none [(51, .inl []), (48, .inr (0, some 49))] (pu_s3 L xs).2.2.2 from rfl).trans ((congrArg (pu_fd none [(51, .inl []), (48, .inr (0, some 49))]) (pu_eR3 L xs)).trans (pu_fd_app none [(51, .inl []), (48, .inr (0, some 49))] pu_oR3 _).symm)
def pu_oR5 : List (pu_It (Option Nat)) := [(54, .inl []), (51, .inr (1, some 53)), (53, .inl []), (51, .inr (0, some 52)), (52, .inl [])] ++ pu_oR4
set_option maxRecDepth 100000 in
theorem pu_eR5 (L : Nat) (xs : Nat → Int32) : (pu_s5 L xs).2.2.2 = pu_fd none pu_oR5 (pe_h0 L xs).2.2.2 := (show (pu_s5 L xs).2.2.2 = pu_fd none [(54, .inl []), (51, .inr (1, some 53)), (53, .inl []), (51, .inr (0, some 52)), (52, .inl [])] (pu_s4 L xs).2.2.2 from rfl).trans ((congrArg (pu_fd none [(54, .inl []), (51, .inr (1, some 53)), (53, .inl []), (51, .inr (0, some 52)), (52, .inl [])]) (pu_eR4 L xs)).trans (pu_fd_app none [(54, .inl []), (51, .inr (1, some 53)), (53, .inl []), (51, .inr (0, some 52)), (52, .inl [])] pu_oR4 _).symm)
def pu_oR6 : List (pu_It (Option Nat)) := [(58, .inl []), (54, .inr (3, some 57)), (57, .inl []), (54, .inr (1, some 56)), (56, .inl []), (54, .inr (0, some 55)), (55, .inl [])] ++ pu_oR5
set_option maxRecDepth 100000 in
theorem pu_eR6 (L : Nat) (xs : Nat → Int32) : (pu_s6 L xs).2.2.2 = pu_fd none pu_oR6 (pe_h0 L xs).2.2.2 := (show (pu_s6 L xs).2.2.2 = pu_fd none [(58, .inl []), (54, .inr (3, some 57)), (57, .inl []), (54, .inr (1, some 56)), (56, .inl []), (54, .inr (0, some 55)), (55, .inl [])] (pu_s5 L xs).2.2.2 from rfl).trans ((congrArg (pu_fd none [(58, .inl []), (54, .inr (3, some 57)), (57, .inl []), (54, .inr (1, some 56)), (56, .inl []), (54, .inr (0, some 55)), (55, .inl [])]) (pu_eR5 L xs)).trans (pu_fd_app none [(58, .inl []), (54, .inr (3, some 57)), (57, .inl []), (54, .inr (1, some 56)), (56, .inl []), (54, .inr (0, some 55)), (55, .inl [])] pu_oR5 _).symm)
def pu_oR7 : List (pu_It (Option Nat)) := [(54, .inr (5, some 59)), (59, .inl []), (54, .inr (4, some 58))] ++ pu_oR6
set_option maxRecDepth 100000 in
theorem pu_eR7 (L : Nat) (xs : Nat → Int32) : (pu_s7 L xs).2.2.2 = pu_fd none pu_oR7 (pe_h0 L xs).2.2.2 := (show (pu_s7 L xs).2.2.2 = pu_fd none [(54, .inr (5, some 59)), (59, .inl []), (54, .inr (4, some 58))] (pu_s6 L xs).2.2.2 from rfl).trans ((congrArg (pu_fd none [(54, .inr (5, some 59)), (59, .inl []), (54, .inr (4, some 58))]) (pu_eR6 L xs)).trans (pu_fd_app none [(54, .inr (5, some 59)), (59, .inl []), (54, .inr (4, some 58))] pu_oR6 _).symm)
def pu_oR8 : List (pu_It (Option Nat)) := [(60, .inl []), (51, .inr (2, some 54))] ++ pu_oR7
set_option maxRecDepth 100000 in
theorem pu_eR8 (L : Nat) (xs : Nat → Int32) : (pu_s8 L xs).2.2.2 = pu_fd none pu_oR8 (pe_h0 L xs).2.2.2 := (show (pu_s8 L xs).2.2.2 = pu_fd none [(60, .inl []), (51, .inr (2, some 54))] (pu_s7 L xs).2.2.2 from rfl).trans ((congrArg (pu_fd none [(60, .inl []), (51, .inr (2, some 54))]) (pu_eR7 L xs)).trans (pu_fd_app none [(60, .inl []), (51, .inr (2, some 54))] pu_oR7 _).symm)
def pu_oR9 : List (pu_It (Option Nat)) := [(64, .inl []), (60, .inr (3, some 63)), (63, .inl []), (60, .inr (1, some 62)), (62, .inl []), (60, .inr (0, some 61)), (61, .inl [])] ++ pu_oR8
set_option maxRecDepth 100000 in
theorem pu_eR9 (L : Nat) (xs : Nat → Int32) : (pu_s9 L xs).2.2.2 = pu_fd none pu_oR9 (pe_h0 L xs).2.2.2 := (show (pu_s9 L xs).2.2.2 = pu_fd none [(64, .inl []), (60, .inr (3, some 63)), (63, .inl []), (60, .inr (1, some 62)), (62, .inl []), (60, .inr (0, some 61)), (61, .inl [])] (pu_s8 L xs).2.2.2 from rfl).trans ((congrArg (pu_fd none [(64, .inl []), (60, .inr (3, some 63)), (63, .inl []), (60, .inr (1, some 62)), (62, .inl []), (60, .inr (0, some 61)), (61, .inl [])]) (pu_eR8 L xs)).trans (pu_fd_app none [(64, .inl []), (60, .inr (3, some 63)), (63, .inl []), (60, .inr (1, some 62)), (62, .inl []), (60, .inr (0, some 61)), (61, .inl [])] pu_oR8 _).symm)
def pu_oR10 : List (pu_It (Option Nat)) := [(60, .inr (5, some 65)), (65, .inl []), (60, .inr (4, some 64))] ++ pu_oR9
set_option maxRecDepth 100000 in
theorem pu_eR10 (L : Nat) (xs : Nat → Int32) : (pu_s10 L xs).2.2.2 = pu_fd none pu_oR10 (pe_h0 L xs).2.2.2 := (show (pu_s10 L xs).2.2.2 = pu_fd none [(60, .inr (5, some 65)), (65, .inl []), (60, .inr (4, some 64))] (pu_s9 L xs).2.2.2 from rfl).trans ((congrArg (pu_fd none [(60, .inr (5, some 65)), (65, .inl []), (60, .inr (4, some 64))]) (pu_eR9 L xs)).trans (pu_fd_app none [(60, .inr (5, some 65)), (65, .inl []), (60, .inr (4, some 64))] pu_oR9 _).symm)
def pu_oR11 : List (pu_It (Option Nat)) := [(51, .inr (3, some 60))] ++ pu_oR10
set_option maxRecDepth 100000 in
theorem pu_eR11 (L : Nat) (xs : Nat → Int32) : (pu_s11 L xs).2.2.2 = pu_fd none pu_oR11 (pe_h0 L xs).2.2.2 := (show (pu_s11 L xs).2.2.2 = pu_fd none [(51, .inr (3, some 60))] (pu_s10 L xs).2.2.2 from rfl).trans ((congrArg (pu_fd none [(51, .inr (3, some 60))]) (pu_eR10 L xs)).trans (pu_fd_app none [(51, .inr (3, some 60))] pu_oR10 _).symm)
def pu_oR12 : List (pu_It (Option Nat)) := [(66, .inl []), (48, .inr (1, some 51))] ++ pu_oR11
set_option maxRecDepth 100000 in
theorem pu_eR12 (L : Nat) (xs : Nat → Int32) : (pu_s12 L xs).2.2.2 = pu_fd none pu_oR12 (pe_h0 L xs).2.2.2 := (show (pu_s12 L xs).2.2.2 = pu_fd none [(66, .inl []), (48, .inr (1, some 51))] (pu_s11 L xs).2.2.2 from rfl).trans ((congrArg (pu_fd none [(66, .inl []), (48, .inr (1, some 51))]) (pu_eR11 L xs)).trans (pu_fd_app none [(66, .inl []), (48, .inr (1, some 51))] pu_oR11 _).symm)
def pu_oR13 : List (pu_It (Option Nat)) := [(69, .inl []), (66, .inr (1, some 68)), (68, .inl []), (66, .inr (0, some 67)), (67, .inl [])] ++ pu_oR12
set_option maxRecDepth 100000 in
theorem pu_eR13 (L : Nat) (xs : Nat → Int32) : (pu_s13 L xs).2.2.2 = pu_fd none pu_oR13 (pe_h0 L xs).2.2.2 := (show (pu_s13 L xs).2.2.2 = pu_fd none [(69, .inl []), (66, .inr (1, some 68)), (68, .inl []), (66, .inr (0, some 67)), (67, .inl [])] (pu_s12 L xs).2.2.2 from rfl).trans ((congrArg (pu_fd none [(69, .inl []), (66, .inr (1, some 68)), (68, .inl []), (66, .inr (0, some 67)), (67, .inl [])]) (pu_eR12 L xs)).trans (pu_fd_app none [(69, .inl []), (66, .inr (1, some 68)), (68, .inl []), (66, .inr (0, some 67)), (67, .inl [])] pu_oR12 _).symm)
def pu_oR14 : List (pu_It (Option Nat)) := [(73, .inl []), (69, .inr (3, some 72)), (72, .inl []), (69, .inr (1, some 71)), (71, .inl []), (69, .inr (0, some 70)), (70, .inl [])] ++ pu_oR13
set_option maxRecDepth 100000 in
theorem pu_eR14 (L : Nat) (xs : Nat → Int32) : (pu_s14 L xs).2.2.2 = pu_fd none pu_oR14 (pe_h0 L xs).2.2.2 := (show (pu_s14 L xs).2.2.2 = pu_fd none [(73, .inl []), (69, .inr (3, some 72)), (72, .inl []), (69, .inr (1, some 71)), (71, .inl []), (69, .inr (0, some 70)), (70, .inl [])] (pu_s13 L xs).2.2.2 from rfl).trans ((congrArg (pu_fd none [(73, .inl []), (69, .inr (3, some 72)), (72, .inl []), (69, .inr (1, some 71)), (71, .inl []), (69, .inr (0, some 70)), (70, .inl [])]) (pu_eR13 L xs)).trans (pu_fd_app none [(73, .inl []), (69, .inr (3, some 72)), (72, .inl []), (69, .inr (1, some 71)), (71, .inl []), (69, .inr (0, some 70)), (70, .inl [])] pu_oR13 _).symm)
def pu_oR15 : List (pu_It (Option Nat)) := [(69, .inr (5, some 74)), (74, .inl []), (69, .inr (4, some 73))] ++ pu_oR14
set_option maxRecDepth 100000 in
theorem pu_eR15 (L : Nat) (xs : Nat → Int32) : (pu_s15 L xs).2.2.2 = pu_fd none pu_oR15 (pe_h0 L xs).2.2.2 := (show (pu_s15 L xs).2.2.2 = pu_fd none [(69, .inr (5, some 74)), (74, .inl []), (69, .inr (4, some 73))] (pu_s14 L xs).2.2.2 from rfl).trans ((congrArg (pu_fd none [(69, .inr (5, some 74)), (74, .inl []), (69, .inr (4, some 73))]) (pu_eR14 L xs)).trans (pu_fd_app none [(69, .inr (5, some 74)), (74, .inl []), (69, .inr (4, some 73))] pu_oR14 _).symm)
def pu_oR16 : List (pu_It (Option Nat)) := [(75, .inl []), (66, .inr (2, some 69))] ++ pu_oR15
set_option maxRecDepth 100000 in
theorem pu_eR16 (L : Nat) (xs : Nat → Int32) : (pu_s16 L xs).2.2.2 = pu_fd none pu_oR16 (pe_h0 L xs).2.2.2 := (show (pu_s16 L xs).2.2.2 = pu_fd none [(75, .inl []), (66, .inr (2, some 69))] (pu_s15 L xs).2.2.2 from rfl).trans ((congrArg (pu_fd none [(75, .inl []), (66, .inr (2, some 69))]) (pu_eR15 L xs)).trans (pu_fd_app none [(75, .inl []), (66, .inr (2, some 69))] pu_oR15 _).symm)
def pu_oR17 : List (pu_It (Option Nat)) := [(79, .inl []), (75, .inr (3, some 78)), (78, .inl []), (75, .inr (1, some 77)), (77, .inl []), (75, .inr (0, some 76)), (76, .inl [])] ++ pu_oR16
set_option maxRecDepth 100000 in
theorem pu_eR17 (L : Nat) (xs : Nat → Int32) : (pu_s17 L xs).2.2.2 = pu_fd none pu_oR17 (pe_h0 L xs).2.2.2 := (show (pu_s17 L xs).2.2.2 = pu_fd none [(79, .inl []), (75, .inr (3, some 78)), (78, .inl []), (75, .inr (1, some 77)), (77, .inl []), (75, .inr (0, some 76)), (76, .inl [])] (pu_s16 L xs).2.2.2 from rfl).trans ((congrArg (pu_fd none [(79, .inl []), (75, .inr (3, some 78)), (78, .inl []), (75, .inr (1, some 77)), (77, .inl []), (75, .inr (0, some 76)), (76, .inl [])]) (pu_eR16 L xs)).trans (pu_fd_app none [(79, .inl []), (75, .inr (3, some 78)), (78, .inl []), (75, .inr (1, some 77)), (77, .inl []), (75, .inr (0, some 76)), (76, .inl [])] pu_oR16 _).symm)
def pu_oR18 : List (pu_It (Option Nat)) := [(75, .inr (5, some 80)), (80, .inl []), (75, .inr (4, some 79))] ++ pu_oR17
set_option maxRecDepth 100000 in
theorem pu_eR18 (L : Nat) (xs : Nat → Int32) : (pu_s18 L xs).2.2.2 = pu_fd none pu_oR18 (pe_h0 L xs).2.2.2 := (show (pu_s18 L xs).2.2.2 = pu_fd none [(75, .inr (5, some 80)), (80, .inl []), (75, .inr (4, some 79))] (pu_s17 L xs).2.2.2 from rfl).trans ((congrArg (pu_fd none [(75, .inr (5, some 80)), (80, .inl []), (75, .inr (4, some 79))]) (pu_eR17 L xs)).trans (pu_fd_app none [(75, .inr (5, some 80)), (80, .inl []), (75, .inr (4, some 79))] pu_oR17 _).symm)
def pu_oR19 : List (pu_It (Option Nat)) := [(66, .inr (3, some 75))] ++ pu_oR18
set_option maxRecDepth 100000 in
theorem pu_eR19 (L : Nat) (xs : Nat → Int32) : (pu_s19 L xs).2.2.2 = pu_fd none pu_oR19 (pe_h0 L xs).2.2.2 := (show (pu_s19 L xs).2.2.2 = pu_fd none [(66, .inr (3, some 75))] (pu_s18 L xs).2.2.2 from rfl).trans ((congrArg (pu_fd none [(66, .inr (3, some 75))]) (pu_eR18 L xs)).trans (pu_fd_app none [(66, .inr (3, some 75))] pu_oR18 _).symm)
def pu_oR20 : List (pu_It (Option Nat)) := [(81, .inl []), (48, .inr (2, some 66))] ++ pu_oR19
set_option maxRecDepth 100000 in
theorem pu_eR20 (L : Nat) (xs : Nat → Int32) : (pu_s20 L xs).2.2.2 = pu_fd none pu_oR20 (pe_h0 L xs).2.2.2 := (show (pu_s20 L xs).2.2.2 = pu_fd none [(81, .inl []), (48, .inr (2, some 66))] (pu_s19 L xs).2.2.2 from rfl).trans ((congrArg (pu_fd none [(81, .inl []), (48, .inr (2, some 66))]) (pu_eR19 L xs)).trans (pu_fd_app none [(81, .inl []), (48, .inr (2, some 66))] pu_oR19 _).symm)
def pu_oR21 : List (pu_It (Option Nat)) := [(81, .inr (3, some 85)), (85, .inl []), (81, .inr (2, some 84)), (84, .inl []), (81, .inr (1, some 83)), (83, .inl []), (81, .inr (0, some 82)), (82, .inl [])] ++ pu_oR20
set_option maxRecDepth 100000 in
theorem pu_eR21 (L : Nat) (xs : Nat → Int32) : (pu_s21 L xs).2.2.2 = pu_fd none pu_oR21 (pe_h0 L xs).2.2.2 := (show (pu_s21 L xs).2.2.2 = pu_fd none [(81, .inr (3, some 85)), (85, .inl []), (81, .inr (2, some 84)), (84, .inl []), (81, .inr (1, some 83)), (83, .inl []), (81, .inr (0, some 82)), (82, .inl [])] (pu_s20 L xs).2.2.2 from rfl).trans ((congrArg (pu_fd none [(81, .inr (3, some 85)), (85, .inl []), (81, .inr (2, some 84)), (84, .inl []), (81, .inr (1, some 83)), (83, .inl []), (81, .inr (0, some 82)), (82, .inl [])]) (pu_eR20 L xs)).trans (pu_fd_app none [(81, .inr (3, some 85)), (85, .inl []), (81, .inr (2, some 84)), (84, .inl []), (81, .inr (1, some 83)), (83, .inl []), (81, .inr (0, some 82)), (82, .inl [])] pu_oR20 _).symm)
def pu_oR22 : List (pu_It (Option Nat)) := [] ++ pu_oR21
set_option maxRecDepth 100000 in
theorem pu_eR22 (L : Nat) (xs : Nat → Int32) : (pu_s22 L xs).2.2.2 = pu_fd none pu_oR22 (pe_h0 L xs).2.2.2 := (show (pu_s22 L xs).2.2.2 = pu_fd none [] (pu_s21 L xs).2.2.2 from rfl).trans ((congrArg (pu_fd none []) (pu_eR21 L xs)).trans (pu_fd_app none [] pu_oR21 _).symm)
def pu_oR23 : List (pu_It (Option Nat)) := [(86, .inl []), (48, .inr (3, some 81))] ++ pu_oR22
set_option maxRecDepth 100000 in
theorem pu_eR23 (L : Nat) (xs : Nat → Int32) : (pu_s23 L xs).2.2.2 = pu_fd none pu_oR23 (pe_h0 L xs).2.2.2 := (show (pu_s23 L xs).2.2.2 = pu_fd none [(86, .inl []), (48, .inr (3, some 81))] (pu_s22 L xs).2.2.2 from rfl).trans ((congrArg (pu_fd none [(86, .inl []), (48, .inr (3, some 81))]) (pu_eR22 L xs)).trans (pu_fd_app none [(86, .inl []), (48, .inr (3, some 81))] pu_oR22 _).symm)
def pu_oR24 : List (pu_It (Option Nat)) := [(86, .inr (3, some 90)), (90, .inl []), (86, .inr (2, some 89)), (89, .inl []), (86, .inr (1, some 88)), (88, .inl []), (86, .inr (0, some 87)), (87, .inl [])] ++ pu_oR23
set_option maxRecDepth 100000 in
theorem pu_eR24 (L : Nat) (xs : Nat → Int32) : (pu_s24 L xs).2.2.2 = pu_fd none pu_oR24 (pe_h0 L xs).2.2.2 := (show (pu_s24 L xs).2.2.2 = pu_fd none [(86, .inr (3, some 90)), (90, .inl []), (86, .inr (2, some 89)), (89, .inl []), (86, .inr (1, some 88)), (88, .inl []), (86, .inr (0, some 87)), (87, .inl [])] (pu_s23 L xs).2.2.2 from rfl).trans ((congrArg (pu_fd none [(86, .inr (3, some 90)), (90, .inl []), (86, .inr (2, some 89)), (89, .inl []), (86, .inr (1, some 88)), (88, .inl []), (86, .inr (0, some 87)), (87, .inl [])]) (pu_eR23 L xs)).trans (pu_fd_app none [(86, .inr (3, some 90)), (90, .inl []), (86, .inr (2, some 89)), (89, .inl []), (86, .inr (1, some 88)), (88, .inl []), (86, .inr (0, some 87)), (87, .inl [])] pu_oR23 _).symm)
def pu_oR25 : List (pu_It (Option Nat)) := [] ++ pu_oR24
set_option maxRecDepth 100000 in
theorem pu_eR25 (L : Nat) (xs : Nat → Int32) : (pu_s25 L xs).2.2.2 = pu_fd none pu_oR25 (pe_h0 L xs).2.2.2 := (show (pu_s25 L xs).2.2.2 = pu_fd none [] (pu_s24 L xs).2.2.2 from rfl).trans ((congrArg (pu_fd none []) (pu_eR24 L xs)).trans (pu_fd_app none [] pu_oR24 _).symm)
def pu_oR26 : List (pu_It (Option Nat)) := [(92, .inl []), (48, .inr (5, some 91)), (91, .inl []), (48, .inr (4, some 86))] ++ pu_oR25
set_option maxRecDepth 100000 in
theorem pu_eR26 (L : Nat) (xs : Nat → Int32) : (pu_s26 L xs).2.2.2 = pu_fd none pu_oR26 (pe_h0 L xs).2.2.2 := (show (pu_s26 L xs).2.2.2 = pu_fd none [(92, .inl []), (48, .inr (5, some 91)), (91, .inl []), (48, .inr (4, some 86))] (pu_s25 L xs).2.2.2 from rfl).trans ((congrArg (pu_fd none [(92, .inl []), (48, .inr (5, some 91)), (91, .inl []), (48, .inr (4, some 86))]) (pu_eR25 L xs)).trans (pu_fd_app none [(92, .inl []), (48, .inr (5, some 91)), (91, .inl []), (48, .inr (4, some 86))] pu_oR25 _).symm)
def pu_oR27 : List (pu_It (Option Nat)) := [(92, .inr (1, some 94)), (94, .inl []), (92, .inr (0, some 93)), (93, .inl [])] ++ pu_oR26
set_option maxRecDepth 100000 in
theorem pu_eR27 (L : Nat) (xs : Nat → Int32) : (pu_s27 L xs).2.2.2 = pu_fd none pu_oR27 (pe_h0 L xs).2.2.2 := (show (pu_s27 L xs).2.2.2 = pu_fd none [(92, .inr (1, some 94)), (94, .inl []), (92, .inr (0, some 93)), (93, .inl [])] (pu_s26 L xs).2.2.2 from rfl).trans ((congrArg (pu_fd none [(92, .inr (1, some 94)), (94, .inl []), (92, .inr (0, some 93)), (93, .inl [])]) (pu_eR26 L xs)).trans (pu_fd_app none [(92, .inr (1, some 94)), (94, .inl []), (92, .inr (0, some 93)), (93, .inl [])] pu_oR26 _).symm)
def pu_oR28 : List (pu_It (Option Nat)) := [(92, .inr (8, some 95)), (95, .inl [])] ++ pu_oR27
set_option maxRecDepth 100000 in
theorem pu_eR28 (L : Nat) (xs : Nat → Int32) : (pu_s28 L xs).2.2.2 = pu_fd none pu_oR28 (pe_h0 L xs).2.2.2 := (show (pu_s28 L xs).2.2.2 = pu_fd none [(92, .inr (8, some 95)), (95, .inl [])] (pu_s27 L xs).2.2.2 from rfl).trans ((congrArg (pu_fd none [(92, .inr (8, some 95)), (95, .inl [])]) (pu_eR27 L xs)).trans (pu_fd_app none [(92, .inr (8, some 95)), (95, .inl [])] pu_oR27 _).symm)
def pu_oR29 : List (pu_It (Option Nat)) := [] ++ pu_oR28
set_option maxRecDepth 100000 in
theorem pu_eR29 (L : Nat) (xs : Nat → Int32) : (pu_s29 L xs).2.2.2 = pu_fd none pu_oR29 (pe_h0 L xs).2.2.2 := (show (pu_s29 L xs).2.2.2 = pu_fd none [] (pu_s28 L xs).2.2.2 from rfl).trans ((congrArg (pu_fd none []) (pu_eR28 L xs)).trans (pu_fd_app none [] pu_oR28 _).symm)
def pu_oR30 : List (pu_It (Option Nat)) := [(98, .inl []), (48, .inr (9, some 97)), (97, .inl []), (48, .inr (8, some 96)), (96, .inl []), (48, .inr (7, some 92))] ++ pu_oR29
set_option maxRecDepth 100000 in
theorem pu_eR30 (L : Nat) (xs : Nat → Int32) : (pu_s30 L xs).2.2.2 = pu_fd none pu_oR30 (pe_h0 L xs).2.2.2 := (show (pu_s30 L xs).2.2.2 = pu_fd none [(98, .inl []), (48, .inr (9, some 97)), (97, .inl []), (48, .inr (8, some 96)), (96, .inl []), (48, .inr (7, some 92))] (pu_s29 L xs).2.2.2 from rfl).trans ((congrArg (pu_fd none [(98, .inl []), (48, .inr (9, some 97)), (97, .inl []), (48, .inr (8, some 96)), (96, .inl []), (48, .inr (7, some 92))]) (pu_eR29 L xs)).trans (pu_fd_app none [(98, .inl []), (48, .inr (9, some 97)), (97, .inl []), (48, .inr (8, some 96)), (96, .inl []), (48, .inr (7, some 92))] pu_oR29 _).symm)
def pu_oR31 : List (pu_It (Option Nat)) := [(99, .inl [])] ++ pu_oR30
set_option maxRecDepth 100000 in
theorem pu_eR31 (L : Nat) (xs : Nat → Int32) : (pu_s31 L xs).2.2.2 = pu_fd none pu_oR31 (pe_h0 L xs).2.2.2 := (show (pu_s31 L xs).2.2.2 = pu_fd none [(99, .inl [])] (pu_s30 L xs).2.2.2 from rfl).trans ((congrArg (pu_fd none [(99, .inl [])]) (pu_eR30 L xs)).trans (pu_fd_app none [(99, .inl [])] pu_oR30 _).symm)
def pu_oR32 : List (pu_It (Option Nat)) := [(99, .inr (1, some 101)), (101, .inl []), (99, .inr (0, some 100)), (100, .inl [])] ++ pu_oR31
set_option maxRecDepth 100000 in
theorem pu_eR32 (L : Nat) (xs : Nat → Int32) : (pu_s32 L xs).2.2.2 = pu_fd none pu_oR32 (pe_h0 L xs).2.2.2 := (show (pu_s32 L xs).2.2.2 = pu_fd none [(99, .inr (1, some 101)), (101, .inl []), (99, .inr (0, some 100)), (100, .inl [])] (pu_s31 L xs).2.2.2 from rfl).trans ((congrArg (pu_fd none [(99, .inr (1, some 101)), (101, .inl []), (99, .inr (0, some 100)), (100, .inl [])]) (pu_eR31 L xs)).trans (pu_fd_app none [(99, .inr (1, some 101)), (101, .inl []), (99, .inr (0, some 100)), (100, .inl [])] pu_oR31 _).symm)
def pu_oR33 : List (pu_It (Option Nat)) := [(99, .inr (8, some 102)), (102, .inl [])] ++ pu_oR32
set_option maxRecDepth 100000 in
theorem pu_eR33 (L : Nat) (xs : Nat → Int32) : (pu_s33 L xs).2.2.2 = pu_fd none pu_oR33 (pe_h0 L xs).2.2.2 := (show (pu_s33 L xs).2.2.2 = pu_fd none [(99, .inr (8, some 102)), (102, .inl [])] (pu_s32 L xs).2.2.2 from rfl).trans ((congrArg (pu_fd none [(99, .inr (8, some 102)), (102, .inl [])]) (pu_eR32 L xs)).trans (pu_fd_app none [(99, .inr (8, some 102)), (102, .inl [])] pu_oR32 _).symm)
def pu_oR34 : List (pu_It (Option Nat)) := [] ++ pu_oR33
set_option maxRecDepth 100000 in
theorem pu_eR34 (L : Nat) (xs : Nat → Int32) : (pu_s34 L xs).2.2.2 = pu_fd none pu_oR34 (pe_h0 L xs).2.2.2 := (show (pu_s34 L xs).2.2.2 = pu_fd none [] (pu_s33 L xs).2.2.2 from rfl).trans ((congrArg (pu_fd none []) (pu_eR33 L xs)).trans (pu_fd_app none [] pu_oR33 _).symm)
def pu_oR35 : List (pu_It (Option Nat)) := [(98, .inr (0, some 99))] ++ pu_oR34
set_option maxRecDepth 100000 in
theorem pu_eR35 (L : Nat) (xs : Nat → Int32) : (pu_s35 L xs).2.2.2 = pu_fd none pu_oR35 (pe_h0 L xs).2.2.2 := (show (pu_s35 L xs).2.2.2 = pu_fd none [(98, .inr (0, some 99))] (pu_s34 L xs).2.2.2 from rfl).trans ((congrArg (pu_fd none [(98, .inr (0, some 99))]) (pu_eR34 L xs)).trans (pu_fd_app none [(98, .inr (0, some 99))] pu_oR34 _).symm)
def pu_oR36 : List (pu_It (Option Nat)) := [] ++ pu_oR35
set_option maxRecDepth 100000 in
theorem pu_eR36 (L : Nat) (xs : Nat → Int32) : (pu_s36 L xs).2.2.2 = pu_fd none pu_oR36 (pe_h0 L xs).2.2.2 := (show (pu_s36 L xs).2.2.2 = pu_fd none [] (pu_s35 L xs).2.2.2 from rfl).trans ((congrArg (pu_fd none []) (pu_eR35 L xs)).trans (pu_fd_app none [] pu_oR35 _).symm)
def pu_oR37 : List (pu_It (Option Nat)) := [(104, .inl []), (48, .inr (11, some 103)), (103, .inl []), (48, .inr (10, some 98))] ++ pu_oR36
set_option maxRecDepth 100000 in
theorem pu_eR37 (L : Nat) (xs : Nat → Int32) : (pu_s37 L xs).2.2.2 = pu_fd none pu_oR37 (pe_h0 L xs).2.2.2 := (show (pu_s37 L xs).2.2.2 = pu_fd none [(104, .inl []), (48, .inr (11, some 103)), (103, .inl []), (48, .inr (10, some 98))] (pu_s36 L xs).2.2.2 from rfl).trans ((congrArg (pu_fd none [(104, .inl []), (48, .inr (11, some 103)), (103, .inl []), (48, .inr (10, some 98))]) (pu_eR36 L xs)).trans (pu_fd_app none [(104, .inl []), (48, .inr (11, some 103)), (103, .inl []), (48, .inr (10, some 98))] pu_oR36 _).symm)
def pu_oR38 : List (pu_It (Option Nat)) := [(104, .inr (2, some 107)), (107, .inl []), (104, .inr (1, some 106)), (106, .inl []), (104, .inr (0, some 105)), (105, .inl [])] ++ pu_oR37
set_option maxRecDepth 100000 in
theorem pu_eR38 (L : Nat) (xs : Nat → Int32) : (pu_s38 L xs).2.2.2 = pu_fd none pu_oR38 (pe_h0 L xs).2.2.2 := (show (pu_s38 L xs).2.2.2 = pu_fd none [(104, .inr (2, some 107)), (107, .inl []), (104, .inr (1, some 106)), (106, .inl []), (104, .inr (0, some 105)), (105, .inl [])] (pu_s37 L xs).2.2.2 from rfl).trans ((congrArg (pu_fd none [(104, .inr (2, some 107)), (107, .inl []), (104, .inr (1, some 106)), (106, .inl []), (104, .inr (0, some 105)), (105, .inl [])]) (pu_eR37 L xs)).trans (pu_fd_app none [(104, .inr (2, some 107)), (107, .inl []), (104, .inr (1, some 106)), (106, .inl []), (104, .inr (0, some 105)), (105, .inl [])] pu_oR37 _).symm)
def pu_oR39 : List (pu_It (Option Nat)) := [(108, .inl []), (48, .inr (12, some 104))] ++ pu_oR38
set_option maxRecDepth 100000 in
theorem pu_eR39 (L : Nat) (xs : Nat → Int32) : (pu_s39 L xs).2.2.2 = pu_fd none pu_oR39 (pe_h0 L xs).2.2.2 := (show (pu_s39 L xs).2.2.2 = pu_fd none [(108, .inl []), (48, .inr (12, some 104))] (pu_s38 L xs).2.2.2 from rfl).trans ((congrArg (pu_fd none [(108, .inl []), (48, .inr (12, some 104))]) (pu_eR38 L xs)).trans (pu_fd_app none [(108, .inl []), (48, .inr (12, some 104))] pu_oR38 _).symm)
def pu_oR40 : List (pu_It (Option Nat)) := [(108, .inr (2, some 111)), (111, .inl []), (108, .inr (1, some 110)), (110, .inl []), (108, .inr (0, some 109)), (109, .inl [])] ++ pu_oR39
set_option maxRecDepth 100000 in
theorem pu_eR40 (L : Nat) (xs : Nat → Int32) : (pu_s40 L xs).2.2.2 = pu_fd none pu_oR40 (pe_h0 L xs).2.2.2 := (show (pu_s40 L xs).2.2.2 = pu_fd none [(108, .inr (2, some 111)), (111, .inl []), (108, .inr (1, some 110)), (110, .inl []), (108, .inr (0, some 109)), (109, .inl [])] (pu_s39 L xs).2.2.2 from rfl).trans ((congrArg (pu_fd none [(108, .inr (2, some 111)), (111, .inl []), (108, .inr (1, some 110)), (110, .inl []), (108, .inr (0, some 109)), (109, .inl [])]) (pu_eR39 L xs)).trans (pu_fd_app none [(108, .inr (2, some 111)), (111, .inl []), (108, .inr (1, some 110)), (110, .inl []), (108, .inr (0, some 109)), (109, .inl [])] pu_oR39 _).symm)
def pu_oR41 : List (pu_It (Option Nat)) := [(112, .inl []), (48, .inr (13, some 108))] ++ pu_oR40
set_option maxRecDepth 100000 in
theorem pu_eR41 (L : Nat) (xs : Nat → Int32) : (pu_s41 L xs).2.2.2 = pu_fd none pu_oR41 (pe_h0 L xs).2.2.2 := (show (pu_s41 L xs).2.2.2 = pu_fd none [(112, .inl []), (48, .inr (13, some 108))] (pu_s40 L xs).2.2.2 from rfl).trans ((congrArg (pu_fd none [(112, .inl []), (48, .inr (13, some 108))]) (pu_eR40 L xs)).trans (pu_fd_app none [(112, .inl []), (48, .inr (13, some 108))] pu_oR40 _).symm)
def pu_oR42 : List (pu_It (Option Nat)) := [(112, .inr (3, some 116)), (116, .inl []), (112, .inr (2, some 115)), (115, .inl []), (112, .inr (1, some 114)), (114, .inl []), (112, .inr (0, some 113)), (113, .inl [])] ++ pu_oR41
set_option maxRecDepth 100000 in
theorem pu_eR42 (L : Nat) (xs : Nat → Int32) : (pu_s42 L xs).2.2.2 = pu_fd none pu_oR42 (pe_h0 L xs).2.2.2 := (show (pu_s42 L xs).2.2.2 = pu_fd none [(112, .inr (3, some 116)), (116, .inl []), (112, .inr (2, some 115)), (115, .inl []), (112, .inr (1, some 114)), (114, .inl []), (112, .inr (0, some 113)), (113, .inl [])] (pu_s41 L xs).2.2.2 from rfl).trans ((congrArg (pu_fd none [(112, .inr (3, some 116)), (116, .inl []), (112, .inr (2, some 115)), (115, .inl []), (112, .inr (1, some 114)), (114, .inl []), (112, .inr (0, some 113)), (113, .inl [])]) (pu_eR41 L xs)).trans (pu_fd_app none [(112, .inr (3, some 116)), (116, .inl []), (112, .inr (2, some 115)), (115, .inl []), (112, .inr (1, some 114)), (114, .inl []), (112, .inr (0, some 113)), (113, .inl [])] pu_oR41 _).symm)
def pu_oR43 : List (pu_It (Option Nat)) := [] ++ pu_oR42
set_option maxRecDepth 100000 in
theorem pu_eR43 (L : Nat) (xs : Nat → Int32) : (pu_s43 L xs).2.2.2 = pu_fd none pu_oR43 (pe_h0 L xs).2.2.2 := (show (pu_s43 L xs).2.2.2 = pu_fd none [] (pu_s42 L xs).2.2.2 from rfl).trans ((congrArg (pu_fd none []) (pu_eR42 L xs)).trans (pu_fd_app none [] pu_oR42 _).symm)
def pu_oR44 : List (pu_It (Option Nat)) := [(117, .inl []), (48, .inr (14, some 112))] ++ pu_oR43
set_option maxRecDepth 100000 in
theorem pu_eR44 (L : Nat) (xs : Nat → Int32) : (pu_s44 L xs).2.2.2 = pu_fd none pu_oR44 (pe_h0 L xs).2.2.2 := (show (pu_s44 L xs).2.2.2 = pu_fd none [(117, .inl []), (48, .inr (14, some 112))] (pu_s43 L xs).2.2.2 from rfl).trans ((congrArg (pu_fd none [(117, .inl []), (48, .inr (14, some 112))]) (pu_eR43 L xs)).trans (pu_fd_app none [(117, .inl []), (48, .inr (14, some 112))] pu_oR43 _).symm)
def pu_oR45 : List (pu_It (Option Nat)) := [(117, .inr (4, some 120)), (120, .inl []), (117, .inr (1, some 119)), (119, .inl []), (117, .inr (0, some 118)), (118, .inl [])] ++ pu_oR44
set_option maxRecDepth 100000 in
theorem pu_eR45 (L : Nat) (xs : Nat → Int32) : (pu_s45 L xs).2.2.2 = pu_fd none pu_oR45 (pe_h0 L xs).2.2.2 := (show (pu_s45 L xs).2.2.2 = pu_fd none [(117, .inr (4, some 120)), (120, .inl []), (117, .inr (1, some 119)), (119, .inl []), (117, .inr (0, some 118)), (118, .inl [])] (pu_s44 L xs).2.2.2 from rfl).trans ((congrArg (pu_fd none [(117, .inr (4, some 120)), (120, .inl []), (117, .inr (1, some 119)), (119, .inl []), (117, .inr (0, some 118)), (118, .inl [])]) (pu_eR44 L xs)).trans (pu_fd_app none [(117, .inr (4, some 120)), (120, .inl []), (117, .inr (1, some 119)), (119, .inl []), (117, .inr (0, some 118)), (118, .inl [])] pu_oR44 _).symm)
def pu_oR46 : List (pu_It (Option Nat)) := [(117, .inr (8, some 124)), (124, .inl []), (117, .inr (7, some 123)), (123, .inl []), (117, .inr (6, some 122)), (122, .inl []), (117, .inr (5, some 121)), (121, .inl [])] ++ pu_oR45
set_option maxRecDepth 100000 in
theorem pu_eR46 (L : Nat) (xs : Nat → Int32) : (pu_s46 L xs).2.2.2 = pu_fd none pu_oR46 (pe_h0 L xs).2.2.2 := (show (pu_s46 L xs).2.2.2 = pu_fd none [(117, .inr (8, some 124)), (124, .inl []), (117, .inr (7, some 123)), (123, .inl []), (117, .inr (6, some 122)), (122, .inl []), (117, .inr (5, some 121)), (121, .inl [])] (pu_s45 L xs).2.2.2 from rfl).trans ((congrArg (pu_fd none [(117, .inr (8, some 124)), (124, .inl []), (117, .inr (7, some 123)), (123, .inl []), (117, .inr (6, some 122)), (122, .inl []), (117, .inr (5, some 121)), (121, .inl [])]) (pu_eR45 L xs)).trans (pu_fd_app none [(117, .inr (8, some 124)), (124, .inl []), (117, .inr (7, some 123)), (123, .inl []), (117, .inr (6, some 122)), (122, .inl []), (117, .inr (5, some 121)), (121, .inl [])] pu_oR45 _).symm)
def pu_oR47 : List (pu_It (Option Nat)) := [] ++ pu_oR46
set_option maxRecDepth 100000 in
theorem pu_eR47 (L : Nat) (xs : Nat → Int32) : (pu_s47 L xs).2.2.2 = pu_fd none pu_oR47 (pe_h0 L xs).2.2.2 := (show (pu_s47 L xs).2.2.2 = pu_fd none [] (pu_s46 L xs).2.2.2 from rfl).trans ((congrArg (pu_fd none []) (pu_eR46 L xs)).trans (pu_fd_app none [] pu_oR46 _).symm)
def pu_oR48 : List (pu_It (Option Nat)) := [(125, .inl []), (48, .inr (15, some 117))] ++ pu_oR47
set_option maxRecDepth 100000 in
theorem pu_eR48 (L : Nat) (xs : Nat → Int32) : (pu_s48 L xs).2.2.2 = pu_fd none pu_oR48 (pe_h0 L xs).2.2.2 := (show (pu_s48 L xs).2.2.2 = pu_fd none [(125, .inl []), (48, .inr (15, some 117))] (pu_s47 L xs).2.2.2 from rfl).trans ((congrArg (pu_fd none [(125, .inl []), (48, .inr (15, some 117))]) (pu_eR47 L xs)).trans (pu_fd_app none [(125, .inl []), (48, .inr (15, some 117))] pu_oR47 _).symm)
def pu_oR49 : List (pu_It (Option Nat)) := [(125, .inr (4, some 128)), (128, .inl []), (125, .inr (1, some 127)), (127, .inl []), (125, .inr (0, some 126)), (126, .inl [])] ++ pu_oR48
set_option maxRecDepth 100000 in
theorem pu_eR49 (L : Nat) (xs : Nat → Int32) : (pu_s49 L xs).2.2.2 = pu_fd none pu_oR49 (pe_h0 L xs).2.2.2 := (show (pu_s49 L xs).2.2.2 = pu_fd none [(125, .inr (4, some 128)), (128, .inl []), (125, .inr (1, some 127)), (127, .inl []), (125, .inr (0, some 126)), (126, .inl [])] (pu_s48 L xs).2.2.2 from rfl).trans ((congrArg (pu_fd none [(125, .inr (4, some 128)), (128, .inl []), (125, .inr (1, some 127)), (127, .inl []), (125, .inr (0, some 126)), (126, .inl [])]) (pu_eR48 L xs)).trans (pu_fd_app none [(125, .inr (4, some 128)), (128, .inl []), (125, .inr (1, some 127)), (127, .inl []), (125, .inr (0, some 126)), (126, .inl [])] pu_oR48 _).symm)
def pu_oR50 : List (pu_It (Option Nat)) := [(125, .inr (6, some 130)), (130, .inl []), (125, .inr (5, some 129)), (129, .inl [])] ++ pu_oR49
set_option maxRecDepth 100000 in
theorem pu_eR50 (L : Nat) (xs : Nat → Int32) : (pu_s50 L xs).2.2.2 = pu_fd none pu_oR50 (pe_h0 L xs).2.2.2 := (show (pu_s50 L xs).2.2.2 = pu_fd none [(125, .inr (6, some 130)), (130, .inl []), (125, .inr (5, some 129)), (129, .inl [])] (pu_s49 L xs).2.2.2 from rfl).trans ((congrArg (pu_fd none [(125, .inr (6, some 130)), (130, .inl []), (125, .inr (5, some 129)), (129, .inl [])]) (pu_eR49 L xs)).trans (pu_fd_app none [(125, .inr (6, some 130)), (130, .inl []), (125, .inr (5, some 129)), (129, .inl [])] pu_oR49 _).symm)
def pu_oR51 : List (pu_It (Option Nat)) := [(133, .inl []), (48, .inr (18, some 132)), (132, .inl []), (48, .inr (17, some 131)), (131, .inl []), (48, .inr (16, some 125))] ++ pu_oR50
set_option maxRecDepth 100000 in
theorem pu_eR51 (L : Nat) (xs : Nat → Int32) : (pu_s51 L xs).2.2.2 = pu_fd none pu_oR51 (pe_h0 L xs).2.2.2 := (show (pu_s51 L xs).2.2.2 = pu_fd none [(133, .inl []), (48, .inr (18, some 132)), (132, .inl []), (48, .inr (17, some 131)), (131, .inl []), (48, .inr (16, some 125))] (pu_s50 L xs).2.2.2 from rfl).trans ((congrArg (pu_fd none [(133, .inl []), (48, .inr (18, some 132)), (132, .inl []), (48, .inr (17, some 131)), (131, .inl []), (48, .inr (16, some 125))]) (pu_eR50 L xs)).trans (pu_fd_app none [(133, .inl []), (48, .inr (18, some 132)), (132, .inl []), (48, .inr (17, some 131)), (131, .inl []), (48, .inr (16, some 125))] pu_oR50 _).symm)
def pu_oR52 : List (pu_It (Option Nat)) := [] ++ pu_oR51
set_option maxRecDepth 100000 in
theorem pu_eR52 (L : Nat) (xs : Nat → Int32) : (pu_s52 L xs).2.2.2 = pu_fd none pu_oR52 (pe_h0 L xs).2.2.2 := (show (pu_s52 L xs).2.2.2 = pu_fd none [] (pu_s51 L xs).2.2.2 from rfl).trans ((congrArg (pu_fd none []) (pu_eR51 L xs)).trans (pu_fd_app none [] pu_oR51 _).symm)
def pu_oR53 : List (pu_It (Option Nat)) := [(134, .inl []), (91, .inr (0, some 133))] ++ pu_oR52
set_option maxRecDepth 100000 in
theorem pu_eR53 (L : Nat) (xs : Nat → Int32) : (pu_s53 L xs).2.2.2 = pu_fd none pu_oR53 (pe_h0 L xs).2.2.2 := (show (pu_s53 L xs).2.2.2 = pu_fd none [(134, .inl []), (91, .inr (0, some 133))] (pu_s52 L xs).2.2.2 from rfl).trans ((congrArg (pu_fd none [(134, .inl []), (91, .inr (0, some 133))]) (pu_eR52 L xs)).trans (pu_fd_app none [(134, .inl []), (91, .inr (0, some 133))] pu_oR52 _).symm)
def pu_oR54 : List (pu_It (Option Nat)) := [] ++ pu_oR53
set_option maxRecDepth 100000 in
theorem pu_eR54 (L : Nat) (xs : Nat → Int32) : (pu_s54 L xs).2.2.2 = pu_fd none pu_oR54 (pe_h0 L xs).2.2.2 := (show (pu_s54 L xs).2.2.2 = pu_fd none [] (pu_s53 L xs).2.2.2 from rfl).trans ((congrArg (pu_fd none []) (pu_eR53 L xs)).trans (pu_fd_app none [] pu_oR53 _).symm)
def pu_oR55 : List (pu_It (Option Nat)) := [(135, .inl []), (91, .inr (1, some 134))] ++ pu_oR54
set_option maxRecDepth 100000 in
theorem pu_eR55 (L : Nat) (xs : Nat → Int32) : (pu_s55 L xs).2.2.2 = pu_fd none pu_oR55 (pe_h0 L xs).2.2.2 := (show (pu_s55 L xs).2.2.2 = pu_fd none [(135, .inl []), (91, .inr (1, some 134))] (pu_s54 L xs).2.2.2 from rfl).trans ((congrArg (pu_fd none [(135, .inl []), (91, .inr (1, some 134))]) (pu_eR54 L xs)).trans (pu_fd_app none [(135, .inl []), (91, .inr (1, some 134))] pu_oR54 _).symm)
def pu_oR56 : List (pu_It (Option Nat)) := [] ++ pu_oR55
set_option maxRecDepth 100000 in
theorem pu_eR56 (L : Nat) (xs : Nat → Int32) : (pu_s56 L xs).2.2.2 = pu_fd none pu_oR56 (pe_h0 L xs).2.2.2 := (show (pu_s56 L xs).2.2.2 = pu_fd none [] (pu_s55 L xs).2.2.2 from rfl).trans ((congrArg (pu_fd none []) (pu_eR55 L xs)).trans (pu_fd_app none [] pu_oR55 _).symm)
def pu_oR57 : List (pu_It (Option Nat)) := [(136, .inl []), (91, .inr (2, some 135))] ++ pu_oR56
set_option maxRecDepth 100000 in
theorem pu_eR57 (L : Nat) (xs : Nat → Int32) : (pu_s57 L xs).2.2.2 = pu_fd none pu_oR57 (pe_h0 L xs).2.2.2 := (show (pu_s57 L xs).2.2.2 = pu_fd none [(136, .inl []), (91, .inr (2, some 135))] (pu_s56 L xs).2.2.2 from rfl).trans ((congrArg (pu_fd none [(136, .inl []), (91, .inr (2, some 135))]) (pu_eR56 L xs)).trans (pu_fd_app none [(136, .inl []), (91, .inr (2, some 135))] pu_oR56 _).symm)
def pu_oR58 : List (pu_It (Option Nat)) := [] ++ pu_oR57
set_option maxRecDepth 100000 in
theorem pu_eR58 (L : Nat) (xs : Nat → Int32) : (pu_s58 L xs).2.2.2 = pu_fd none pu_oR58 (pe_h0 L xs).2.2.2 := (show (pu_s58 L xs).2.2.2 = pu_fd none [] (pu_s57 L xs).2.2.2 from rfl).trans ((congrArg (pu_fd none []) (pu_eR57 L xs)).trans (pu_fd_app none [] pu_oR57 _).symm)
def pu_oR59 : List (pu_It (Option Nat)) := [(137, .inl []), (91, .inr (3, some 136))] ++ pu_oR58
set_option maxRecDepth 100000 in
theorem pu_eR59 (L : Nat) (xs : Nat → Int32) : (pu_s59 L xs).2.2.2 = pu_fd none pu_oR59 (pe_h0 L xs).2.2.2 := (show (pu_s59 L xs).2.2.2 = pu_fd none [(137, .inl []), (91, .inr (3, some 136))] (pu_s58 L xs).2.2.2 from rfl).trans ((congrArg (pu_fd none [(137, .inl []), (91, .inr (3, some 136))]) (pu_eR58 L xs)).trans (pu_fd_app none [(137, .inl []), (91, .inr (3, some 136))] pu_oR58 _).symm)
def pu_oR60 : List (pu_It (Option Nat)) := [(137, .inr (1, some 139)), (139, .inl []), (137, .inr (0, some 138)), (138, .inl [])] ++ pu_oR59
set_option maxRecDepth 100000 in
theorem pu_eR60 (L : Nat) (xs : Nat → Int32) : (pu_s60 L xs).2.2.2 = pu_fd none pu_oR60 (pe_h0 L xs).2.2.2 := (show (pu_s60 L xs).2.2.2 = pu_fd none [(137, .inr (1, some 139)), (139, .inl []), (137, .inr (0, some 138)), (138, .inl [])] (pu_s59 L xs).2.2.2 from rfl).trans ((congrArg (pu_fd none [(137, .inr (1, some 139)), (139, .inl []), (137, .inr (0, some 138)), (138, .inl [])]) (pu_eR59 L xs)).trans (pu_fd_app none [(137, .inr (1, some 139)), (139, .inl []), (137, .inr (0, some 138)), (138, .inl [])] pu_oR59 _).symm)
def pu_oR61 : List (pu_It (Option Nat)) := [(137, .inr (8, some 140)), (140, .inl [])] ++ pu_oR60
set_option maxRecDepth 100000 in
theorem pu_eR61 (L : Nat) (xs : Nat → Int32) : (pu_s61 L xs).2.2.2 = pu_fd none pu_oR61 (pe_h0 L xs).2.2.2 := (show (pu_s61 L xs).2.2.2 = pu_fd none [(137, .inr (8, some 140)), (140, .inl [])] (pu_s60 L xs).2.2.2 from rfl).trans ((congrArg (pu_fd none [(137, .inr (8, some 140)), (140, .inl [])]) (pu_eR60 L xs)).trans (pu_fd_app none [(137, .inr (8, some 140)), (140, .inl [])] pu_oR60 _).symm)
def pu_oR62 : List (pu_It (Option Nat)) := [] ++ pu_oR61
set_option maxRecDepth 100000 in
theorem pu_eR62 (L : Nat) (xs : Nat → Int32) : (pu_s62 L xs).2.2.2 = pu_fd none pu_oR62 (pe_h0 L xs).2.2.2 := (show (pu_s62 L xs).2.2.2 = pu_fd none [] (pu_s61 L xs).2.2.2 from rfl).trans ((congrArg (pu_fd none []) (pu_eR61 L xs)).trans (pu_fd_app none [] pu_oR61 _).symm)
def pu_oR63 : List (pu_It (Option Nat)) := [(141, .inl []), (96, .inr (0, some 137))] ++ pu_oR62
set_option maxRecDepth 100000 in
theorem pu_eR63 (L : Nat) (xs : Nat → Int32) : (pu_s63 L xs).2.2.2 = pu_fd none pu_oR63 (pe_h0 L xs).2.2.2 := (show (pu_s63 L xs).2.2.2 = pu_fd none [(141, .inl []), (96, .inr (0, some 137))] (pu_s62 L xs).2.2.2 from rfl).trans ((congrArg (pu_fd none [(141, .inl []), (96, .inr (0, some 137))]) (pu_eR62 L xs)).trans (pu_fd_app none [(141, .inl []), (96, .inr (0, some 137))] pu_oR62 _).symm)
def pu_oR64 : List (pu_It (Option Nat)) := [(141, .inr (1, some 143)), (143, .inl []), (141, .inr (0, some 142)), (142, .inl [])] ++ pu_oR63
set_option maxRecDepth 100000 in
theorem pu_eR64 (L : Nat) (xs : Nat → Int32) : (pu_s64 L xs).2.2.2 = pu_fd none pu_oR64 (pe_h0 L xs).2.2.2 := (show (pu_s64 L xs).2.2.2 = pu_fd none [(141, .inr (1, some 143)), (143, .inl []), (141, .inr (0, some 142)), (142, .inl [])] (pu_s63 L xs).2.2.2 from rfl).trans ((congrArg (pu_fd none [(141, .inr (1, some 143)), (143, .inl []), (141, .inr (0, some 142)), (142, .inl [])]) (pu_eR63 L xs)).trans (pu_fd_app none [(141, .inr (1, some 143)), (143, .inl []), (141, .inr (0, some 142)), (142, .inl [])] pu_oR63 _).symm)
def pu_oR65 : List (pu_It (Option Nat)) := [(141, .inr (8, some 144)), (144, .inl [])] ++ pu_oR64
set_option maxRecDepth 100000 in
theorem pu_eR65 (L : Nat) (xs : Nat → Int32) : (pu_s65 L xs).2.2.2 = pu_fd none pu_oR65 (pe_h0 L xs).2.2.2 := (show (pu_s65 L xs).2.2.2 = pu_fd none [(141, .inr (8, some 144)), (144, .inl [])] (pu_s64 L xs).2.2.2 from rfl).trans ((congrArg (pu_fd none [(141, .inr (8, some 144)), (144, .inl [])]) (pu_eR64 L xs)).trans (pu_fd_app none [(141, .inr (8, some 144)), (144, .inl [])] pu_oR64 _).symm)
def pu_oR66 : List (pu_It (Option Nat)) := [] ++ pu_oR65
set_option maxRecDepth 100000 in
theorem pu_eR66 (L : Nat) (xs : Nat → Int32) : (pu_s66 L xs).2.2.2 = pu_fd none pu_oR66 (pe_h0 L xs).2.2.2 := (show (pu_s66 L xs).2.2.2 = pu_fd none [] (pu_s65 L xs).2.2.2 from rfl).trans ((congrArg (pu_fd none []) (pu_eR65 L xs)).trans (pu_fd_app none [] pu_oR65 _).symm)
def pu_oR67 : List (pu_It (Option Nat)) := [(96, .inr (1, some 141))] ++ pu_oR66
set_option maxRecDepth 100000 in
theorem pu_eR67 (L : Nat) (xs : Nat → Int32) : (pu_s67 L xs).2.2.2 = pu_fd none pu_oR67 (pe_h0 L xs).2.2.2 := (show (pu_s67 L xs).2.2.2 = pu_fd none [(96, .inr (1, some 141))] (pu_s66 L xs).2.2.2 from rfl).trans ((congrArg (pu_fd none [(96, .inr (1, some 141))]) (pu_eR66 L xs)).trans (pu_fd_app none [(96, .inr (1, some 141))] pu_oR66 _).symm)
def pu_oR68 : List (pu_It (Option Nat)) := [(145, .inl [])] ++ pu_oR67
set_option maxRecDepth 100000 in
theorem pu_eR68 (L : Nat) (xs : Nat → Int32) : (pu_s68 L xs).2.2.2 = pu_fd none pu_oR68 (pe_h0 L xs).2.2.2 := (show (pu_s68 L xs).2.2.2 = pu_fd none [(145, .inl [])] (pu_s67 L xs).2.2.2 from rfl).trans ((congrArg (pu_fd none [(145, .inl [])]) (pu_eR67 L xs)).trans (pu_fd_app none [(145, .inl [])] pu_oR67 _).symm)
def pu_oR69 : List (pu_It (Option Nat)) := [(145, .inr (3, some 149)), (149, .inl []), (145, .inr (2, some 148)), (148, .inl []), (145, .inr (1, some 147)), (147, .inl []), (145, .inr (0, some 146)), (146, .inl [])] ++ pu_oR68
set_option maxRecDepth 100000 in
theorem pu_eR69 (L : Nat) (xs : Nat → Int32) : (pu_s69 L xs).2.2.2 = pu_fd none pu_oR69 (pe_h0 L xs).2.2.2 := (show (pu_s69 L xs).2.2.2 = pu_fd none [(145, .inr (3, some 149)), (149, .inl []), (145, .inr (2, some 148)), (148, .inl []), (145, .inr (1, some 147)), (147, .inl []), (145, .inr (0, some 146)), (146, .inl [])] (pu_s68 L xs).2.2.2 from rfl).trans ((congrArg (pu_fd none [(145, .inr (3, some 149)), (149, .inl []), (145, .inr (2, some 148)), (148, .inl []), (145, .inr (1, some 147)), (147, .inl []), (145, .inr (0, some 146)), (146, .inl [])]) (pu_eR68 L xs)).trans (pu_fd_app none [(145, .inr (3, some 149)), (149, .inl []), (145, .inr (2, some 148)), (148, .inl []), (145, .inr (1, some 147)), (147, .inl []), (145, .inr (0, some 146)), (146, .inl [])] pu_oR68 _).symm)
def pu_oR70 : List (pu_It (Option Nat)) := [(145, .inr (7, some 153)), (153, .inl []), (145, .inr (6, some 152)), (152, .inl []), (145, .inr (5, some 151)), (151, .inl []), (145, .inr (4, some 150)), (150, .inl [])] ++ pu_oR69
set_option maxRecDepth 100000 in
theorem pu_eR70 (L : Nat) (xs : Nat → Int32) : (pu_s70 L xs).2.2.2 = pu_fd none pu_oR70 (pe_h0 L xs).2.2.2 := (show (pu_s70 L xs).2.2.2 = pu_fd none [(145, .inr (7, some 153)), (153, .inl []), (145, .inr (6, some 152)), (152, .inl []), (145, .inr (5, some 151)), (151, .inl []), (145, .inr (4, some 150)), (150, .inl [])] (pu_s69 L xs).2.2.2 from rfl).trans ((congrArg (pu_fd none [(145, .inr (7, some 153)), (153, .inl []), (145, .inr (6, some 152)), (152, .inl []), (145, .inr (5, some 151)), (151, .inl []), (145, .inr (4, some 150)), (150, .inl [])]) (pu_eR69 L xs)).trans (pu_fd_app none [(145, .inr (7, some 153)), (153, .inl []), (145, .inr (6, some 152)), (152, .inl []), (145, .inr (5, some 151)), (151, .inl []), (145, .inr (4, some 150)), (150, .inl [])] pu_oR69 _).symm)
def pu_oR71 : List (pu_It (Option Nat)) := [(157, .inl []), (145, .inr (19, some 156)), (156, .inl []), (145, .inr (17, some 155)), (155, .inl []), (145, .inr (15, some 154)), (154, .inl [])] ++ pu_oR70
set_option maxRecDepth 100000 in
theorem pu_eR71 (L : Nat) (xs : Nat → Int32) : (pu_s71 L xs).2.2.2 = pu_fd none pu_oR71 (pe_h0 L xs).2.2.2 := (show (pu_s71 L xs).2.2.2 = pu_fd none [(157, .inl []), (145, .inr (19, some 156)), (156, .inl []), (145, .inr (17, some 155)), (155, .inl []), (145, .inr (15, some 154)), (154, .inl [])] (pu_s70 L xs).2.2.2 from rfl).trans ((congrArg (pu_fd none [(157, .inl []), (145, .inr (19, some 156)), (156, .inl []), (145, .inr (17, some 155)), (155, .inl []), (145, .inr (15, some 154)), (154, .inl [])]) (pu_eR70 L xs)).trans (pu_fd_app none [(157, .inl []), (145, .inr (19, some 156)), (156, .inl []), (145, .inr (17, some 155)), (155, .inl []), (145, .inr (15, some 154)), (154, .inl [])] pu_oR70 _).symm)
def pu_oR72 : List (pu_It (Option Nat)) := [(161, .inl []), (145, .inr (23, some 160)), (160, .inl []), (145, .inr (22, some 159)), (159, .inl []), (145, .inr (21, some 158)), (158, .inl []), (145, .inr (20, some 157))] ++ pu_oR71
set_option maxRecDepth 100000 in
theorem pu_eR72 (L : Nat) (xs : Nat → Int32) : (pu_s72 L xs).2.2.2 = pu_fd none pu_oR72 (pe_h0 L xs).2.2.2 := (show (pu_s72 L xs).2.2.2 = pu_fd none [(161, .inl []), (145, .inr (23, some 160)), (160, .inl []), (145, .inr (22, some 159)), (159, .inl []), (145, .inr (21, some 158)), (158, .inl []), (145, .inr (20, some 157))] (pu_s71 L xs).2.2.2 from rfl).trans ((congrArg (pu_fd none [(161, .inl []), (145, .inr (23, some 160)), (160, .inl []), (145, .inr (22, some 159)), (159, .inl []), (145, .inr (21, some 158)), (158, .inl []), (145, .inr (20, some 157))]) (pu_eR71 L xs)).trans (pu_fd_app none [(161, .inl []), (145, .inr (23, some 160)), (160, .inl []), (145, .inr (22, some 159)), (159, .inl []), (145, .inr (21, some 158)), (158, .inl []), (145, .inr (20, some 157))] pu_oR71 _).symm)
def pu_oR73 : List (pu_It (Option Nat)) := [(165, .inl []), (145, .inr (29, some 164)), (164, .inl []), (145, .inr (28, some 163)), (163, .inl []), (145, .inr (25, some 162)), (162, .inl []), (145, .inr (24, some 161))] ++ pu_oR72
set_option maxRecDepth 100000 in
theorem pu_eR73 (L : Nat) (xs : Nat → Int32) : (pu_s73 L xs).2.2.2 = pu_fd none pu_oR73 (pe_h0 L xs).2.2.2 := (show (pu_s73 L xs).2.2.2 = pu_fd none [(165, .inl []), (145, .inr (29, some 164)), (164, .inl []), (145, .inr (28, some 163)), (163, .inl []), (145, .inr (25, some 162)), (162, .inl []), (145, .inr (24, some 161))] (pu_s72 L xs).2.2.2 from rfl).trans ((congrArg (pu_fd none [(165, .inl []), (145, .inr (29, some 164)), (164, .inl []), (145, .inr (28, some 163)), (163, .inl []), (145, .inr (25, some 162)), (162, .inl []), (145, .inr (24, some 161))]) (pu_eR72 L xs)).trans (pu_fd_app none [(165, .inl []), (145, .inr (29, some 164)), (164, .inl []), (145, .inr (28, some 163)), (163, .inl []), (145, .inr (25, some 162)), (162, .inl []), (145, .inr (24, some 161))] pu_oR72 _).symm)
def pu_oR74 : List (pu_It (Option Nat)) := [(169, .inl []), (145, .inr (34, some 168)), (168, .inl []), (145, .inr (32, some 167)), (167, .inl []), (145, .inr (31, some 166)), (166, .inl []), (145, .inr (30, some 165))] ++ pu_oR73
set_option maxRecDepth 100000 in
theorem pu_eR74 (L : Nat) (xs : Nat → Int32) : (pu_s74 L xs).2.2.2 = pu_fd none pu_oR74 (pe_h0 L xs).2.2.2 := (show (pu_s74 L xs).2.2.2 = pu_fd none [(169, .inl []), (145, .inr (34, some 168)), (168, .inl []), (145, .inr (32, some 167)), (167, .inl []), (145, .inr (31, some 166)), (166, .inl []), (145, .inr (30, some 165))] (pu_s73 L xs).2.2.2 from rfl).trans ((congrArg (pu_fd none [(169, .inl []), (145, .inr (34, some 168)), (168, .inl []), (145, .inr (32, some 167)), (167, .inl []), (145, .inr (31, some 166)), (166, .inl []), (145, .inr (30, some 165))]) (pu_eR73 L xs)).trans (pu_fd_app none [(169, .inl []), (145, .inr (34, some 168)), (168, .inl []), (145, .inr (32, some 167)), (167, .inl []), (145, .inr (31, some 166)), (166, .inl []), (145, .inr (30, some 165))] pu_oR73 _).symm)
def pu_oR75 : List (pu_It (Option Nat)) := [(173, .inl []), (145, .inr (40, some 172)), (172, .inl []), (145, .inr (39, some 171)), (171, .inl []), (145, .inr (36, some 170)), (170, .inl []), (145, .inr (35, some 169))] ++ pu_oR74
set_option maxRecDepth 100000 in
theorem pu_eR75 (L : Nat) (xs : Nat → Int32) : (pu_s75 L xs).2.2.2 = pu_fd none pu_oR75 (pe_h0 L xs).2.2.2 := (show (pu_s75 L xs).2.2.2 = pu_fd none [(173, .inl []), (145, .inr (40, some 172)), (172, .inl []), (145, .inr (39, some 171)), (171, .inl []), (145, .inr (36, some 170)), (170, .inl []), (145, .inr (35, some 169))] (pu_s74 L xs).2.2.2 from rfl).trans ((congrArg (pu_fd none [(173, .inl []), (145, .inr (40, some 172)), (172, .inl []), (145, .inr (39, some 171)), (171, .inl []), (145, .inr (36, some 170)), (170, .inl []), (145, .inr (35, some 169))]) (pu_eR74 L xs)).trans (pu_fd_app none [(173, .inl []), (145, .inr (40, some 172)), (172, .inl []), (145, .inr (39, some 171)), (171, .inl []), (145, .inr (36, some 170)), (170, .inl []), (145, .inr (35, some 169))] pu_oR74 _).symm)
def pu_oR76 : List (pu_It (Option Nat)) := [(177, .inl []), (145, .inr (47, some 176)), (176, .inl []), (145, .inr (45, some 175)), (175, .inl []), (145, .inr (43, some 174)), (174, .inl []), (145, .inr (42, some 173))] ++ pu_oR75
set_option maxRecDepth 100000 in
theorem pu_eR76 (L : Nat) (xs : Nat → Int32) : (pu_s76 L xs).2.2.2 = pu_fd none pu_oR76 (pe_h0 L xs).2.2.2 := (show (pu_s76 L xs).2.2.2 = pu_fd none [(177, .inl []), (145, .inr (47, some 176)), (176, .inl []), (145, .inr (45, some 175)), (175, .inl []), (145, .inr (43, some 174)), (174, .inl []), (145, .inr (42, some 173))] (pu_s75 L xs).2.2.2 from rfl).trans ((congrArg (pu_fd none [(177, .inl []), (145, .inr (47, some 176)), (176, .inl []), (145, .inr (45, some 175)), (175, .inl []), (145, .inr (43, some 174)), (174, .inl []), (145, .inr (42, some 173))]) (pu_eR75 L xs)).trans (pu_fd_app none [(177, .inl []), (145, .inr (47, some 176)), (176, .inl []), (145, .inr (45, some 175)), (175, .inl []), (145, .inr (43, some 174)), (174, .inl []), (145, .inr (42, some 173))] pu_oR75 _).symm)
def pu_oR77 : List (pu_It (Option Nat)) := [(181, .inl []), (145, .inr (51, some 180)), (180, .inl []), (145, .inr (50, some 179)), (179, .inl []), (145, .inr (49, some 178)), (178, .inl []), (145, .inr (48, some 177))] ++ pu_oR76
set_option maxRecDepth 100000 in
theorem pu_eR77 (L : Nat) (xs : Nat → Int32) : (pu_s77 L xs).2.2.2 = pu_fd none pu_oR77 (pe_h0 L xs).2.2.2 := (show (pu_s77 L xs).2.2.2 = pu_fd none [(181, .inl []), (145, .inr (51, some 180)), (180, .inl []), (145, .inr (50, some 179)), (179, .inl []), (145, .inr (49, some 178)), (178, .inl []), (145, .inr (48, some 177))] (pu_s76 L xs).2.2.2 from rfl).trans ((congrArg (pu_fd none [(181, .inl []), (145, .inr (51, some 180)), (180, .inl []), (145, .inr (50, some 179)), (179, .inl []), (145, .inr (49, some 178)), (178, .inl []), (145, .inr (48, some 177))]) (pu_eR76 L xs)).trans (pu_fd_app none [(181, .inl []), (145, .inr (51, some 180)), (180, .inl []), (145, .inr (50, some 179)), (179, .inl []), (145, .inr (49, some 178)), (178, .inl []), (145, .inr (48, some 177))] pu_oR76 _).symm)
def pu_oR78 : List (pu_It (Option Nat)) := [(145, .inr (53, some 181))] ++ pu_oR77
set_option maxRecDepth 100000 in
theorem pu_eR78 (L : Nat) (xs : Nat → Int32) : (pu_s78 L xs).2.2.2 = pu_fd none pu_oR78 (pe_h0 L xs).2.2.2 := (show (pu_s78 L xs).2.2.2 = pu_fd none [(145, .inr (53, some 181))] (pu_s77 L xs).2.2.2 from rfl).trans ((congrArg (pu_fd none [(145, .inr (53, some 181))]) (pu_eR77 L xs)).trans (pu_fd_app none [(145, .inr (53, some 181))] pu_oR77 _).symm)
def pu_oR79 : List (pu_It (Option Nat)) := [] ++ pu_oR78
set_option maxRecDepth 100000 in
theorem pu_eR79 (L : Nat) (xs : Nat → Int32) : (pu_s79 L xs).2.2.2 = pu_fd none pu_oR79 (pe_h0 L xs).2.2.2 := (show (pu_s79 L xs).2.2.2 = pu_fd none [] (pu_s78 L xs).2.2.2 from rfl).trans ((congrArg (pu_fd none []) (pu_eR78 L xs)).trans (pu_fd_app none [] pu_oR78 _).symm)
def pu_oR80 : List (pu_It (Option Nat)) := [] ++ pu_oR79
set_option maxRecDepth 100000 in
theorem pu_eR80 (L : Nat) (xs : Nat → Int32) : (pu_s80 L xs).2.2.2 = pu_fd none pu_oR80 (pe_h0 L xs).2.2.2 := (show (pu_s80 L xs).2.2.2 = pu_fd none [] (pu_s79 L xs).2.2.2 from rfl).trans ((congrArg (pu_fd none []) (pu_eR79 L xs)).trans (pu_fd_app none [] pu_oR79 _).symm)
def pu_oR81 : List (pu_It (Option Nat)) := [] ++ pu_oR80
set_option maxRecDepth 100000 in
theorem pu_eR81 (L : Nat) (xs : Nat → Int32) : (pu_s81 L xs).2.2.2 = pu_fd none pu_oR81 (pe_h0 L xs).2.2.2 := (show (pu_s81 L xs).2.2.2 = pu_fd none [] (pu_s80 L xs).2.2.2 from rfl).trans ((congrArg (pu_fd none []) (pu_eR80 L xs)).trans (pu_fd_app none [] pu_oR80 _).symm)
def pu_oR82 : List (pu_It (Option Nat)) := [] ++ pu_oR81
set_option maxRecDepth 100000 in
theorem pu_eR82 (L : Nat) (xs : Nat → Int32) : (pu_s82 L xs).2.2.2 = pu_fd none pu_oR82 (pe_h0 L xs).2.2.2 := (show (pu_s82 L xs).2.2.2 = pu_fd none [] (pu_s81 L xs).2.2.2 from rfl).trans ((congrArg (pu_fd none []) (pu_eR81 L xs)).trans (pu_fd_app none [] pu_oR81 _).symm)
def pu_oR83 : List (pu_It (Option Nat)) := [] ++ pu_oR82
set_option maxRecDepth 100000 in
theorem pu_eR83 (L : Nat) (xs : Nat → Int32) : (pu_s83 L xs).2.2.2 = pu_fd none pu_oR83 (pe_h0 L xs).2.2.2 := (show (pu_s83 L xs).2.2.2 = pu_fd none [] (pu_s82 L xs).2.2.2 from rfl).trans ((congrArg (pu_fd none []) (pu_eR82 L xs)).trans (pu_fd_app none [] pu_oR82 _).symm)
def pu_oR84 : List (pu_It (Option Nat)) := [] ++ pu_oR83
set_option maxRecDepth 100000 in
theorem pu_eR84 (L : Nat) (xs : Nat → Int32) : (pu_s84 L xs).2.2.2 = pu_fd none pu_oR84 (pe_h0 L xs).2.2.2 := (show (pu_s84 L xs).2.2.2 = pu_fd none [] (pu_s83 L xs).2.2.2 from rfl).trans ((congrArg (pu_fd none []) (pu_eR83 L xs)).trans (pu_fd_app none [] pu_oR83 _).symm)
def pu_oR85 : List (pu_It (Option Nat)) := [] ++ pu_oR84
set_option maxRecDepth 100000 in
theorem pu_eR85 (L : Nat) (xs : Nat → Int32) : (pu_s85 L xs).2.2.2 = pu_fd none pu_oR85 (pe_h0 L xs).2.2.2 := (show (pu_s85 L xs).2.2.2 = pu_fd none [] (pu_s84 L xs).2.2.2 from rfl).trans ((congrArg (pu_fd none []) (pu_eR84 L xs)).trans (pu_fd_app none [] pu_oR84 _).symm)
def pu_oR86 : List (pu_It (Option Nat)) := [] ++ pu_oR85
set_option maxRecDepth 100000 in
theorem pu_eR86 (L : Nat) (xs : Nat → Int32) : (pu_s86 L xs).2.2.2 = pu_fd none pu_oR86 (pe_h0 L xs).2.2.2 := (show (pu_s86 L xs).2.2.2 = pu_fd none [] (pu_s85 L xs).2.2.2 from rfl).trans ((congrArg (pu_fd none []) (pu_eR85 L xs)).trans (pu_fd_app none [] pu_oR85 _).symm)
def pu_oR87 : List (pu_It (Option Nat)) := [] ++ pu_oR86
set_option maxRecDepth 100000 in
theorem pu_eR87 (L : Nat) (xs : Nat → Int32) : (pu_s87 L xs).2.2.2 = pu_fd none pu_oR87 (pe_h0 L xs).2.2.2 := (show (pu_s87 L xs).2.2.2 = pu_fd none [] (pu_s86 L xs).2.2.2 from rfl).trans ((congrArg (pu_fd none []) (pu_eR86 L xs)).trans (pu_fd_app none [] pu_oR86 _).symm)
abbrev pu_Q : Type := Nat × Nat × Nat
def pu_oK0 : List (Nat × pu_Q) := []
theorem pu_eK0 (L : Nat) (xs : Nat → Int32) : (pu_s0 L xs).1.2.2 = pu_fk pu_oK0 (pe_h0 L xs).1.2.2 := rfl
def pu_oK1 : List (Nat × pu_Q) := [(48, (1, 0, 0))] ++ pu_oK0
set_option maxRecDepth 100000 in
theorem pu_eK1 (L : Nat) (xs : Nat → Int32) : (pu_s1 L xs).1.2.2 = pu_fk pu_oK1 (pe_h0 L xs).1.2.2 := (show (pu_s1 L xs).1.2.2 = pu_fk [(48, (1, 0, 0))] (pu_s0 L xs).1.2.2 from rfl).trans ((congrArg (pu_fk [(48, (1, 0, 0))]) (pu_eK0 L xs)).trans (pu_fk_app [(48, (1, 0, 0))] pu_oK0 _).symm)
def pu_oK2 : List (Nat × pu_Q) := [(49, (1, 1, 0))] ++ pu_oK1
set_option maxRecDepth 100000 in
theorem pu_eK2 (L : Nat) (xs : Nat → Int32) : (pu_s2 L xs).1.2.2 = pu_fk pu_oK2 (pe_h0 L xs).1.2.2 := (show (pu_s2 L xs).1.2.2 = pu_fk [(49, (1, 1, 0))] (pu_s1 L xs).1.2.2 from rfl).trans ((congrArg (pu_fk [(49, (1, 1, 0))]) (pu_eK1 L xs)).trans (pu_fk_app [(49, (1, 1, 0))] pu_oK1 _).symm)
def pu_oK3 : List (Nat × pu_Q) := [(50, (2, 0, 300))] ++ pu_oK2
set_option maxRecDepth 100000 in
theorem pu_eK3 (L : Nat) (xs : Nat → Int32) : (pu_s3 L xs).1.2.2 = pu_fk pu_oK3 (pe_h0 L xs).1.2.2 := (show (pu_s3 L xs).1.2.2 = pu_fk [(50, (2, 0, 300))] (pu_s2 L xs).1.2.2 from rfl).trans ((congrArg (pu_fk [(50, (2, 0, 300))]) (pu_eK2 L xs)).trans (pu_fk_app [(50, (2, 0, 300))] pu_oK2 _).symm)
def pu_oK4 : List (Nat × pu_Q) := [(51, (1, 2, 0))] ++ pu_oK3
set_option maxRecDepth 100000 in
theorem pu_eK4 (L : Nat) (xs : Nat → Int32) : (pu_s4 L xs).1.2.2 = pu_fk pu_oK4 (pe_h0 L xs).1.2.2 := (show (pu_s4 L xs).1.2.2 = pu_fk [(51, (1, 2, 0))] (pu_s3 L xs).1.2.2 from rfl).trans ((congrArg (pu_fk [(51, (1, 2, 0))]) (pu_eK3 L xs)).trans (pu_fk_app [(51, (1, 2, 0))] pu_oK3 _).symm)
def pu_oK5 : List (Nat × pu_Q) := [(54, (1, 3, 0)), (53, (2, 1, 8)), (52, (2, 0, (pd_tab 1).length))] ++ pu_oK4
set_option maxRecDepth 100000 in
theorem pu_eK5 (L : Nat) (xs : Nat → Int32) : (pu_s5 L xs).1.2.2 = pu_fk pu_oK5 (pe_h0 L xs).1.2.2 := (show (pu_s5 L xs).1.2.2 = pu_fk [(54, (1, 3, 0)), (53, (2, 1, 8)), (52, (2, 0, (pd_tab 1).length))] (pu_s4 L xs).1.2.2 from rfl).trans ((congrArg (pu_fk [(54, (1, 3, 0)), (53, (2, 1, 8)), (52, (2, 0, (pd_tab 1).length))]) (pu_eK4 L xs)).trans (pu_fk_app [(54, (1, 3, 0)), (53, (2, 1, 8)), (52, (2, 0, (pd_tab 1).length))] pu_oK4 _).symm)
def pu_oK6 : List (Nat × pu_Q) := [(58, (2, 0, 16)), (57, (2, 0, 16)), (56, (2, 0, 16)), (55, (2, 0, 16))] ++ pu_oK5
set_option maxRecDepth 100000 in
theorem pu_eK6 (L : Nat) (xs : Nat → Int32) : (pu_s6 L xs).1.2.2 = pu_fk pu_oK6 (pe_h0 L xs).1.2.2 := (show (pu_s6 L xs).1.2.2 = pu_fk [(58, (2, 0, 16)), (57, (2, 0, 16)), (56, (2, 0, 16)), (55, (2, 0, 16))] (pu_s5 L xs).1.2.2 from rfl).trans ((congrArg (pu_fk [(58, (2, 0, 16)), (57, (2, 0, 16)), (56, (2, 0, 16)), (55, (2, 0, 16))]) (pu_eK5 L xs)).trans (pu_fk_app [(58, (2, 0, 16)), (57, (2, 0, 16)), (56, (2, 0, 16)), (55, (2, 0, 16))] pu_oK5 _).symm)
def pu_oK7 : List (Nat × pu_Q) := [(59, (2, 1, 16))] ++ pu_oK6
set_option maxRecDepth 100000 in
theorem pu_eK7 (L : Nat) (xs : Nat → Int32) : (pu_s7 L xs).1.2.2 = pu_fk pu_oK7 (pe_h0 L xs).1.2.2 := (show (pu_s7 L xs).1.2.2 = pu_fk [(59, (2, 1, 16))] (pu_s6 L xs).1.2.2 from rfl).trans ((congrArg (pu_fk [(59, (2, 1, 16))]) (pu_eK6 L xs)).trans (pu_fk_app [(59, (2, 1, 16))] pu_oK6 _).symm)
def pu_oK8 : List (Nat × pu_Q) := [(60, (1, 3, 0))] ++ pu_oK7
set_option maxRecDepth 100000 in
theorem pu_eK8 (L : Nat) (xs : Nat → Int32) : (pu_s8 L xs).1.2.2 = pu_fk pu_oK8 (pe_h0 L xs).1.2.2 := (show (pu_s8 L xs).1.2.2 = pu_fk [(60, (1, 3, 0))] (pu_s7 L xs).1.2.2 from rfl).trans ((congrArg (pu_fk [(60, (1, 3, 0))]) (pu_eK7 L xs)).trans (pu_fk_app [(60, (1, 3, 0))] pu_oK7 _).symm)
def pu_oK9 : List (Nat × pu_Q) := [(64, (2, 0, 16)), (63, (2, 0, 16)), (62, (2, 0, 16)), (61, (2, 0, 16))] ++ pu_oK8
set_option maxRecDepth 100000 in
theorem pu_eK9 (L : Nat) (xs : Nat → Int32) : (pu_s9 L xs).1.2.2 = pu_fk pu_oK9 (pe_h0 L xs).1.2.2 := (show (pu_s9 L xs).1.2.2 = pu_fk [(64, (2, 0, 16)), (63, (2, 0, 16)), (62, (2, 0, 16)), (61, (2, 0, 16))] (pu_s8 L xs).1.2.2 from rfl).trans ((congrArg (pu_fk [(64, (2, 0, 16)), (63, (2, 0, 16)), (62, (2, 0, 16)), (61, (2, 0, 16))]) (pu_eK8 L xs)).trans (pu_fk_app [(64, (2, 0, 16)), (63, (2, 0, 16)), (62, (2, 0, 16)), (61, (2, 0, 16))] pu_oK8 _).symm)
def pu_oK10 : List (Nat × pu_Q) := [(65, (2, 1, 16))] ++ pu_oK9
set_option maxRecDepth 100000 in
theorem pu_eK10 (L : Nat) (xs : Nat → Int32) : (pu_s10 L xs).1.2.2 = pu_fk pu_oK10 (pe_h0 L xs).1.2.2 := (show (pu_s10 L xs).1.2.2 = pu_fk [(65, (2, 1, 16))] (pu_s9 L xs).1.2.2 from rfl).trans ((congrArg (pu_fk [(65, (2, 1, 16))]) (pu_eK9 L xs)).trans (pu_fk_app [(65, (2, 1, 16))] pu_oK9 _).symm)
def pu_oK11 : List (Nat × pu_Q) := [] ++ pu_oK10
set_option maxRecDepth 100000 in
theorem pu_eK11 (L : Nat) (xs : Nat → Int32) : (pu_s11 L xs).1.2.2 = pu_fk pu_oK11 (pe_h0 L xs).1.2.2 := (show (pu_s11 L xs).1.2.2 = pu_fk [] (pu_s10 L xs).1.2.2 from rfl).trans ((congrArg (pu_fk []) (pu_eK10 L xs)).trans (pu_fk_app [] pu_oK10 _).symm)
def pu_oK12 : List (Nat × pu_Q) := [(66, (1, 2, 0))] ++ pu_oK11
set_option maxRecDepth 100000 in
theorem pu_eK12 (L : Nat) (xs : Nat → Int32) : (pu_s12 L xs).1.2.2 = pu_fk pu_oK12 (pe_h0 L xs).1.2.2 := (show (pu_s12 L xs).1.2.2 = pu_fk [(66, (1, 2, 0))] (pu_s11 L xs).1.2.2 from rfl).trans ((congrArg (pu_fk [(66, (1, 2, 0))]) (pu_eK11 L xs)).trans (pu_fk_app [(66, (1, 2, 0))] pu_oK11 _).symm)
def pu_oK13 : List (Nat × pu_Q) := [(69, (1, 3, 0)), (68, (2, 1, 8)), (67, (2, 0, (pd_tab 1).length))] ++ pu_oK12
set_option maxRecDepth 100000 in
theorem pu_eK13 (L : Nat) (xs : Nat → Int32) : (pu_s13 L xs).1.2.2 = pu_fk pu_oK13 (pe_h0 L xs).1.2.2 := (show (pu_s13 L xs).1.2.2 = pu_fk [(69, (1, 3, 0)), (68, (2, 1, 8)), (67, (2, 0, (pd_tab 1).length))] (pu_s12 L xs).1.2.2 from rfl).trans ((congrArg (pu_fk [(69, (1, 3, 0)), (68, (2, 1, 8)), (67, (2, 0, (pd_tab 1).length))]) (pu_eK12 L xs)).trans (pu_fk_app [(69, (1, 3, 0)), (68, (2, 1, 8)), (67, (2, 0, (pd_tab 1).length))] pu_oK12 _).symm)
def pu_oK14 : List (Nat × pu_Q) := [(73, (2, 0, 16)), (72, (2, 0, 16)), (71, (2, 0, 16)), (70, (2, 0, 16))] ++ pu_oK13
set_option maxRecDepth 100000 in
theorem pu_eK14 (L : Nat) (xs : Nat → Int32) : (pu_s14 L xs).1.2.2 = pu_fk pu_oK14 (pe_h0 L xs).1.2.2 := (show (pu_s14 L xs).1.2.2 = pu_fk [(73, (2, 0, 16)), (72, (2, 0, 16)), (71, (2, 0, 16)), (70, (2, 0, 16))] (pu_s13 L xs).1.2.2 from rfl).trans ((congrArg (pu_fk [(73, (2, 0, 16)), (72, (2, 0, 16)), (71, (2, 0, 16)), (70, (2, 0, 16))]) (pu_eK13 L xs)).trans (pu_fk_app [(73, (2, 0, 16)), (72, (2, 0, 16)), (71, (2, 0, 16)), (70, (2, 0, 16))] pu_oK13 _).symm)
def pu_oK15 : List (Nat × pu_Q) := [(74, (2, 1, 16))] ++ pu_oK14
set_option maxRecDepth 100000 in
theorem pu_eK15 (L : Nat) (xs : Nat → Int32) : (pu_s15 L xs).1.2.2 = pu_fk pu_oK15 (pe_h0 L xs).1.2.2 := (show (pu_s15 L xs).1.2.2 = pu_fk [(74, (2, 1, 16))] (pu_s14 L xs).1.2.2 from rfl).trans ((congrArg (pu_fk [(74, (2, 1, 16))]) (pu_eK14 L xs)).trans (pu_fk_app [(74, (2, 1, 16))] pu_oK14 _).symm)
def pu_oK16 : List (Nat × pu_Q) := [(75, (1, 3, 0))] ++ pu_oK15
set_option maxRecDepth 100000 in
theorem pu_eK16 (L : Nat) (xs : Nat → Int32) : (pu_s16 L xs).1.2.2 = pu_fk pu_oK16 (pe_h0 L xs).1.2.2 := (show (pu_s16 L xs).1.2.2 = pu_fk [(75, (1, 3, 0))] (pu_s15 L xs).1.2.2 from rfl).trans ((congrArg (pu_fk [(75, (1, 3, 0))]) (pu_eK15 L xs)).trans (pu_fk_app [(75, (1, 3, 0))] pu_oK15 _).symm)
def pu_oK17 : List (Nat × pu_Q) := [(79, (2, 0, 16)), (78, (2, 0, 16)), (77, (2, 0, 16)), (76, (2, 0, 16))] ++ pu_oK16
set_option maxRecDepth 100000 in
theorem pu_eK17 (L : Nat) (xs : Nat → Int32) : (pu_s17 L xs).1.2.2 = pu_fk pu_oK17 (pe_h0 L xs).1.2.2 := (show (pu_s17 L xs).1.2.2 = pu_fk [(79, (2, 0, 16)), (78, (2, 0, 16)), (77, (2, 0, 16)), (76, (2, 0, 16))] (pu_s16 L xs).1.2.2 from rfl).trans ((congrArg (pu_fk [(79, (2, 0, 16)), (78, (2, 0, 16)), (77, (2, 0, 16)), (76, (2, 0, 16))]) (pu_eK16 L xs)).trans (pu_fk_app [(79, (2, 0, 16)), (78, (2, 0, 16)), (77, (2, 0, 16)), (76, (2, 0, 16))] pu_oK16 _).symm)
def pu_oK18 : List (Nat × pu_Q) := [(80, (2, 1, 16))] ++ pu_oK17
set_option maxRecDepth 100000 in
theorem pu_eK18 (L : Nat) (xs : Nat → Int32) : (pu_s18 L xs).1.2.2 = pu_fk pu_oK18 (pe_h0 L xs).1.2.2 := (show (pu_s18 L xs).1.2.2 = pu_fk [(80, (2, 1, 16))] (pu_s17 L xs).1.2.2 from rfl).trans ((congrArg (pu_fk [(80, (2, 1, 16))]) (pu_eK17 L xs)).trans (pu_fk_app [(80, (2, 1, 16))] pu_oK17 _).symm)
def pu_oK19 : List (Nat × pu_Q) := [] ++ pu_oK18
set_option maxRecDepth 100000 in
theorem pu_eK19 (L : Nat) (xs : Nat → Int32) : (pu_s19 L xs).1.2.2 = pu_fk pu_oK19 (pe_h0 L xs).1.2.2 := (show (pu_s19 L xs).1.2.2 = pu_fk [] (pu_s18 L xs).1.2.2 from rfl).trans ((congrArg (pu_fk []) (pu_eK18 L xs)).trans (pu_fk_app [] pu_oK18 _).symm)
def pu_oK20 : List (Nat × pu_Q) := [(81, (1, 4, 0))] ++ pu_oK19
set_option maxRecDepth 100000 in
theorem pu_eK20 (L : Nat) (xs : Nat → Int32) : (pu_s20 L xs).1.2.2 = pu_fk pu_oK20 (pe_h0 L xs).1.2.2 := (show (pu_s20 L xs).1.2.2 = pu_fk [(81, (1, 4, 0))] (pu_s19 L xs).1.2.2 from rfl).trans ((congrArg (pu_fk [(81, (1, 4, 0))]) (pu_eK19 L xs)).trans (pu_fk_app [(81, (1, 4, 0))] pu_oK19 _).symm)
def pu_oK21 : List (Nat × pu_Q) := [(85, (2, 1, 12)), (84, (2, 0, 12)), (83, (2, 0, 12)), (82, (2, 0, 12))] ++ pu_oK20
set_option maxRecDepth 100000 in
theorem pu_eK21 (L : Nat) (xs : Nat → Int32) : (pu_s21 L xs).1.2.2 = pu_fk pu_oK21 (pe_h0 L xs).1.2.2 := (show (pu_s21 L xs).1.2.2 = pu_fk [(85, (2, 1, 12)), (84, (2, 0, 12)), (83, (2, 0, 12)), (82, (2, 0, 12))] (pu_s20 L xs).1.2.2 from rfl).trans ((congrArg (pu_fk [(85, (2, 1, 12)), (84, (2, 0, 12)), (83, (2, 0, 12)), (82, (2, 0, 12))]) (pu_eK20 L xs)).trans (pu_fk_app [(85, (2, 1, 12)), (84, (2, 0, 12)), (83, (2, 0, 12)), (82, (2, 0, 12))] pu_oK20 _).symm)
def pu_oK22 : List (Nat × pu_Q) := [] ++ pu_oK21
set_option maxRecDepth 100000 in
theorem pu_eK22 (L : Nat) (xs : Nat → Int32) : (pu_s22 L xs).1.2.2 = pu_fk pu_oK22 (pe_h0 L xs).1.2.2 := (show (pu_s22 L xs).1.2.2 = pu_fk [] (pu_s21 L xs).1.2.2 from rfl).trans ((congrArg (pu_fk []) (pu_eK21 L xs)).trans (pu_fk_app [] pu_oK21 _).symm)
def pu_oK23 : List (Nat × pu_Q) := [(86, (1, 4, 0))] ++ pu_oK22
set_option maxRecDepth 100000 in
theorem pu_eK23 (L : Nat) (xs : Nat → Int32) : (pu_s23 L xs).1.2.2 = pu_fk pu_oK23 (pe_h0 L xs).1.2.2 := (show (pu_s23 L xs).1.2.2 = pu_fk [(86, (1, 4, 0))] (pu_s22 L xs).1.2.2 from rfl).trans ((congrArg (pu_fk [(86, (1, 4, 0))]) (pu_eK22 L xs)).trans (pu_fk_app [(86, (1, 4, 0))] pu_oK22 _).symm)
def pu_oK24 : List (Nat × pu_Q) := [(90, (2, 1, 12)), (89, (2, 0, 12)), (88, (2, 0, 12)), (87, (2, 0, 12))] ++ pu_oK23
set_option maxRecDepth 100000 in
theorem pu_eK24 (L : Nat) (xs : Nat → Int32) : (pu_s24 L xs).1.2.2 = pu_fk pu_oK24 (pe_h0 L xs).1.2.2 := (show (pu_s24 L xs).1.2.2 = pu_fk [(90, (2, 1, 12)), (89, (2, 0, 12)), (88, (2, 0, 12)), (87, (2, 0, 12))] (pu_s23 L xs).1.2.2 from rfl).trans ((congrArg (pu_fk [(90, (2, 1, 12)), (89, (2, 0, 12)), (88, (2, 0, 12)), (87, (2, 0, 12))]) (pu_eK23 L xs)).trans (pu_fk_app [(90, (2, 1, 12)), (89, (2, 0, 12)), (88, (2, 0, 12)), (87, (2, 0, 12))] pu_oK23 _).symm)
def pu_oK25 : List (Nat × pu_Q) := [] ++ pu_oK24
set_option maxRecDepth 100000 in
theorem pu_eK25 (L : Nat) (xs : Nat → Int32) : (pu_s25 L xs).1.2.2 = pu_fk pu_oK25 (pe_h0 L xs).1.2.2 := (show (pu_s25 L xs).1.2.2 = pu_fk [] (pu_s24 L xs).1.2.2 from rfl).trans ((congrArg (pu_fk []) (pu_eK24 L xs)).trans (pu_fk_app [] pu_oK24 _).symm)
def pu_oK26 : List (Nat × pu_Q) := [(92, (1, 5, 0)), (91, (2, 15, 4))] ++ pu_oK25
set_option maxRecDepth 100000 in
theorem pu_eK26 (L : Nat) (xs : Nat → Int32) : (pu_s26 L xs).1.2.2 = pu_fk pu_oK26 (pe_h0 L xs).1.2.2 := (show (pu_s26 L xs).1.2.2 = pu_fk [(92, (1, 5, 0)), (91, (2, 15, 4))] (pu_s25 L xs).1.2.2 from rfl).trans ((congrArg (pu_fk [(92, (1, 5, 0)), (91, (2, 15, 4))]) (pu_eK25 L xs)).trans (pu_fk_app [(92, (1, 5, 0)), (91, (2, 15, 4))] pu_oK25 _).symm)
def pu_oK27 : List (Nat × pu_Q) := [(94, (2, 2, 8)), (93, (2, 2, 8))] ++ pu_oK26
set_option maxRecDepth 100000 in
theorem pu_eK27 (L : Nat) (xs : Nat → Int32) : (pu_s27 L xs).1.2.2 = pu_fk pu_oK27 (pe_h0 L xs).1.2.2 := (show (pu_s27 L xs).1.2.2 = pu_fk [(94, (2, 2, 8)), (93, (2, 2, 8))] (pu_s26 L xs).1.2.2 from rfl).trans ((congrArg (pu_fk [(94, (2, 2, 8)), (93, (2, 2, 8))]) (pu_eK26 L xs)).trans (pu_fk_app [(94, (2, 2, 8)), (93, (2, 2, 8))] pu_oK26 _).symm)
def pu_oK28 : List (Nat × pu_Q) := [(95, (2, 0, 2))] ++ pu_oK27
set_option maxRecDepth 100000 in
theorem pu_eK28 (L : Nat) (xs : Nat → Int32) : (pu_s28 L xs).1.2.2 = pu_fk pu_oK28 (pe_h0 L xs).1.2.2 := (show (pu_s28 L xs).1.2.2 = pu_fk [(95, (2, 0, 2))] (pu_s27 L xs).1.2.2 from rfl).trans ((congrArg (pu_fk [(95, (2, 0, 2))]) (pu_eK27 L xs)).trans (pu_fk_app [(95, (2, 0, 2))] pu_oK27 _).symm)
def pu_oK29 : List (Nat × pu_Q) := [] ++ pu_oK28
set_option maxRecDepth 100000 in
theorem pu_eK29 (L : Nat) (xs : Nat → Int32) : (pu_s29 L xs).1.2.2 = pu_fk pu_oK29 (pe_h0 L xs).1.2.2 := (show (pu_s29 L xs).1.2.2 = pu_fk [] (pu_s28 L xs).1.2.2 from rfl).trans ((congrArg (pu_fk []) (pu_eK28 L xs)).trans (pu_fk_app [] pu_oK28 _).symm)
def pu_oK30 : List (Nat × pu_Q) := [(98, (1, 6, 0)), (97, (2, 1, 2)), (96, (2, 9, 2))] ++ pu_oK29
set_option maxRecDepth 100000 in
theorem pu_eK30 (L : Nat) (xs : Nat → Int32) : (pu_s30 L xs).1.2.2 = pu_fk pu_oK30 (pe_h0 L xs).1.2.2 := (show (pu_s30 L xs).1.2.2 = pu_fk [(98, (1, 6, 0)), (97, (2, 1, 2)), (96, (2, 9, 2))] (pu_s29 L xs).1.2.2 from rfl).trans ((congrArg (pu_fk [(98, (1, 6, 0)), (97, (2, 1, 2)), (96, (2, 9, 2))]) (pu_eK29 L xs)).trans (pu_fk_app [(98, (1, 6, 0)), (97, (2, 1, 2)), (96, (2, 9, 2))] pu_oK29 _).symm)
def pu_oK31 : List (Nat × pu_Q) := [(99, (1, 5, 0))] ++ pu_oK30
set_option maxRecDepth 100000 in
theorem pu_eK31 (L : Nat) (xs : Nat → Int32) : (pu_s31 L xs).1.2.2 = pu_fk pu_oK31 (pe_h0 L xs).1.2.2 := (show (pu_s31 L xs).1.2.2 = pu_fk [(99, (1, 5, 0))] (pu_s30 L xs).1.2.2 from rfl).trans ((congrArg (pu_fk [(99, (1, 5, 0))]) (pu_eK30 L xs)).trans (pu_fk_app [(99, (1, 5, 0))] pu_oK30 _).symm)
def pu_oK32 : List (Nat × pu_Q) := [(101, (2, 2, 8)), (100, (2, 2, 8))] ++ pu_oK31
set_option maxRecDepth 100000 in
theorem pu_eK32 (L : Nat) (xs : Nat → Int32) : (pu_s32 L xs).1.2.2 = pu_fk pu_oK32 (pe_h0 L xs).1.2.2 := (show (pu_s32 L xs).1.2.2 = pu_fk [(101, (2, 2, 8)), (100, (2, 2, 8))] (pu_s31 L xs).1.2.2 from rfl).trans ((congrArg (pu_fk [(101, (2, 2, 8)), (100, (2, 2, 8))]) (pu_eK31 L xs)).trans (pu_fk_app [(101, (2, 2, 8)), (100, (2, 2, 8))] pu_oK31 _).symm)
def pu_oK33 : List (Nat × pu_Q) := [(102, (2, 0, 2))] ++ pu_oK32
set_option maxRecDepth 100000 in
theorem pu_eK33 (L : Nat) (xs : Nat → Int32) : (pu_s33 L xs).1.2.2 = pu_fk pu_oK33 (pe_h0 L xs).1.2.2 := (show (pu_s33 L xs).1.2.2 = pu_fk [(102, (2, 0, 2))] (pu_s32 L xs).1.2.2 from rfl).trans ((congrArg (pu_fk [(102, (2, 0, 2))]) (pu_eK32 L xs)).trans (pu_fk_app [(102, (2, 0, 2))] pu_oK32 _).symm)
def pu_oK34 : List (Nat × pu_Q) := [] ++ pu_oK33
set_option maxRecDepth 100000 in
theorem pu_eK34 (L : Nat) (xs : Nat → Int32) : (pu_s34 L xs).1.2.2 = pu_fk pu_oK34 (pe_h0 L xs).1.2.2 := (show (pu_s34 L xs).1.2.2 = pu_fk [] (pu_s33 L xs).1.2.2 from rfl).trans ((congrArg (pu_fk []) (pu_eK33 L xs)).trans (pu_fk_app [] pu_oK33 _).symm)
def pu_oK35 : List (Nat × pu_Q) := [] ++ pu_oK34
set_option maxRecDepth 100000 in
theorem pu_eK35 (L : Nat) (xs : Nat → Int32) : (pu_s35 L xs).1.2.2 = pu_fk pu_oK35 (pe_h0 L xs).1.2.2 := (show (pu_s35 L xs).1.2.2 = pu_fk [] (pu_s34 L xs).1.2.2 from rfl).trans ((congrArg (pu_fk []) (pu_eK34 L xs)).trans (pu_fk_app [] pu_oK34 _).symm)
def pu_oK36 : List (Nat × pu_Q) := [] ++ pu_oK35
set_option maxRecDepth 100000 in
theorem pu_eK36 (L : Nat) (xs : Nat → Int32) : (pu_s36 L xs).1.2.2 = pu_fk pu_oK36 (pe_h0 L xs).1.2.2 := (show (pu_s36 L xs).1.2.2 = pu_fk [] (pu_s35 L xs).1.2.2 from rfl).trans ((congrArg (pu_fk []) (pu_eK35 L xs)).trans (pu_fk_app [] pu_oK35 _).symm)
def pu_oK37 : List (Nat × pu_Q) := [(104, (1, 7, 0)), (103, (2, 0, 4))] ++ pu_oK36
set_option maxRecDepth 100000 in
theorem pu_eK37 (L : Nat) (xs : Nat → Int32) : (pu_s37 L xs).1.2.2 = pu_fk pu_oK37 (pe_h0 L xs).1.2.2 := (show (pu_s37 L xs).1.2.2 = pu_fk [(104, (1, 7, 0)), (103, (2, 0, 4))] (pu_s36 L xs).1.2.2 from rfl).trans ((congrArg (pu_fk [(104, (1, 7, 0)), (103, (2, 0, 4))]) (pu_eK36 L xs)).trans (pu_fk_app [(104, (1, 7, 0)), (103, (2, 0, 4))] pu_oK36 _).symm)
def pu_oK38 : List (Nat × pu_Q) := [(107, (2, 0, 32)), (106, (2, 0, 32)), (105, (2, 0, 32))] ++ pu_oK37
set_option maxRecDepth 100000 in
theorem pu_eK38 (L : Nat) (xs : Nat → Int32) : (pu_s38 L xs).1.2.2 = pu_fk pu_oK38 (pe_h0 L xs).1.2.2 := (show (pu_s38 L xs).1.2.2 = pu_fk [(107, (2, 0, 32)), (106, (2, 0, 32)), (105, (2, 0, 32))] (pu_s37 L xs).1.2.2 from rfl).trans ((congrArg (pu_fk [(107, (2, 0, 32)), (106, (2, 0, 32)), (105, (2, 0, 32))]) (pu_eK37 L xs)).trans (pu_fk_app [(107, (2, 0, 32)), (106, (2, 0, 32)), (105, (2, 0, 32))] pu_oK37 _).symm)
def pu_oK39 : List (Nat × pu_Q) := [(108, (1, 7, 0))] ++ pu_oK38
set_option maxRecDepth 100000 in
theorem pu_eK39 (L : Nat) (xs : Nat → Int32) : (pu_s39 L xs).1.2.2 = pu_fk pu_oK39 (pe_h0 L xs).1.2.2 := (show (pu_s39 L xs).1.2.2 = pu_fk [(108, (1, 7, 0))] (pu_s38 L xs).1.2.2 from rfl).trans ((congrArg (pu_fk [(108, (1, 7, 0))]) (pu_eK38 L xs)).trans (pu_fk_app [(108, (1, 7, 0))] pu_oK38 _).symm)
def pu_oK40 : List (Nat × pu_Q) := [(111, (2, 0, 32)), (110, (2, 0, 32)), (109, (2, 0, 32))] ++ pu_oK39
set_option maxRecDepth 100000 in
theorem pu_eK40 (L : Nat) (xs : Nat → Int32) : (pu_s40 L xs).1.2.2 = pu_fk pu_oK40 (pe_h0 L xs).1.2.2 := (show (pu_s40 L xs).1.2.2 = pu_fk [(111, (2, 0, 32)), (110, (2, 0, 32)), (109, (2, 0, 32))] (pu_s39 L xs).1.2.2 from rfl).trans ((congrArg (pu_fk [(111, (2, 0, 32)), (110, (2, 0, 32)), (109, (2, 0, 32))]) (pu_eK39 L xs)).trans (pu_fk_app [(111, (2, 0, 32)), (110, (2, 0, 32)), (109, (2, 0, 32))] pu_oK39 _).symm)
def pu_oK41 : List (Nat × pu_Q) := [(112, (1, 8, 0))] ++ pu_oK40
set_option maxRecDepth 100000 in
theorem pu_eK41 (L : Nat) (xs : Nat → Int32) : (pu_s41 L xs).1.2.2 = pu_fk pu_oK41 (pe_h0 L xs).1.2.2 := (show (pu_s41 L xs).1.2.2 = pu_fk [(112, (1, 8, 0))] (pu_s40 L xs).1.2.2 from rfl).trans ((congrArg (pu_fk [(112, (1, 8, 0))]) (pu_eK40 L xs)).trans (pu_fk_app [(112, (1, 8, 0))] pu_oK40 _).symm)
def pu_oK42 : List (Nat × pu_Q) := [(116, (2, 0, 8)), (115, (2, 0, 8)), (114, (2, 0, 8)), (113, (2, 0, 8))] ++ pu_oK41
set_option maxRecDepth 100000 in
theorem pu_eK42 (L : Nat) (xs : Nat → Int32) : (pu_s42 L xs).1.2.2 = pu_fk pu_oK42 (pe_h0 L xs).1.2.2 := (show (pu_s42 L xs).1.2.2 = pu_fk [(116, (2, 0, 8)), (115, (2, 0, 8)), (114, (2, 0, 8)), (113, (2, 0, 8))] (pu_s41 L xs).1.2.2 from rfl).trans ((congrArg (pu_fk [(116, (2, 0, 8)), (115, (2, 0, 8)), (114, (2, 0, 8)), (113, (2, 0, 8))]) (pu_eK41 L xs)).trans (pu_fk_app [(116, (2, 0, 8)), (115, (2, 0, 8)), (114, (2, 0, 8)), (113, (2, 0, 8))] pu_oK41 _).symm)
def pu_oK43 : List (Nat × pu_Q) := [] ++ pu_oK42
set_option maxRecDepth 100000 in
theorem pu_eK43 (L : Nat) (xs : Nat → Int32) : (pu_s43 L xs).1.2.2 = pu_fk pu_oK43 (pe_h0 L xs).1.2.2 := (show (pu_s43 L xs).1.2.2 = pu_fk [] (pu_s42 L xs).1.2.2 from rfl).trans ((congrArg (pu_fk []) (pu_eK42 L xs)).trans (pu_fk_app [] pu_oK42 _).symm)
def pu_oK44 : List (Nat × pu_Q) := [(117, (1, 9, 0))] ++ pu_oK43
set_option maxRecDepth 100000 in
theorem pu_eK44 (L : Nat) (xs : Nat → Int32) : (pu_s44 L xs).1.2.2 = pu_fk pu_oK44 (pe_h0 L xs).1.2.2 := (show (pu_s44 L xs).1.2.2 = pu_fk [(117, (1, 9, 0))] (pu_s43 L xs).1.2.2 from rfl).trans ((congrArg (pu_fk [(117, (1, 9, 0))]) (pu_eK43 L xs)).trans (pu_fk_app [(117, (1, 9, 0))] pu_oK43 _).symm)
def pu_oK45 : List (Nat × pu_Q) := [(120, (2, 0, 8)), (119, (2, 0, 3)), (118, (2, 0, 3))] ++ pu_oK44
set_option maxRecDepth 100000 in
theorem pu_eK45 (L : Nat) (xs : Nat → Int32) : (pu_s45 L xs).1.2.2 = pu_fk pu_oK45 (pe_h0 L xs).1.2.2 := (show (pu_s45 L xs).1.2.2 = pu_fk [(120, (2, 0, 8)), (119, (2, 0, 3)), (118, (2, 0, 3))] (pu_s44 L xs).1.2.2 from rfl).trans ((congrArg (pu_fk [(120, (2, 0, 8)), (119, (2, 0, 3)), (118, (2, 0, 3))]) (pu_eK44 L xs)).trans (pu_fk_app [(120, (2, 0, 8)), (119, (2, 0, 3)), (118, (2, 0, 3))] pu_oK44 _).symm)
def pu_oK46 : List (Nat × pu_Q) := [(124, (2, 0, 8)), (123, (2, 0, 256)), (122, (2, 0, 8)), (121, (2, 0, 8))] ++ pu_oK45
set_option maxRecDepth 100000 in
theorem pu_eK46 (L : Nat) (xs : Nat → Int32) : (pu_s46 L xs).1.2.2 = pu_fk pu_oK46 (pe_h0 L xs).1.2.2 := (show (pu_s46 L xs).1.2.2 = pu_fk [(124, (2, 0, 8)), (123, (2, 0, 256)), (122, (2, 0, 8)), (121, (2, 0, 8))] (pu_s45 L xs).1.2.2 from rfl).trans ((congrArg (pu_fk [(124, (2, 0, 8)), (123, (2, 0, 256)), (122, (2, 0, 8)), (121, (2, 0, 8))]) (pu_eK45 L xs)).trans (pu_fk_app [(124, (2, 0, 8)), (123, (2, 0, 256)), (122, (2, 0, 8)), (121, (2, 0, 8))] pu_oK45 _).symm)
def pu_oK47 : List (Nat × pu_Q) := [] ++ pu_oK46
set_option maxRecDepth 100000 in
theorem pu_eK47 (L : Nat) (xs : Nat → Int32) : (pu_s47 L xs).1.2.2 = pu_fk pu_oK47 (pe_h0 L xs).1.2.2 := (show (pu_s47 L xs).1.2.2 = pu_fk [] (pu_s46 L xs).1.2.2 from rfl).trans ((congrArg (pu_fk []) (pu_eK46 L xs)).trans (pu_fk_app [] pu_oK46 _).symm)
def pu_oK48 : List (Nat × pu_Q) := [(125, (1, 10, 0))] ++ pu_oK47
set_option maxRecDepth 100000 in
theorem pu_eK48 (L : Nat) (xs : Nat → Int32) : (pu_s48 L xs).1.2.2 = pu_fk pu_oK48 (pe_h0 L xs).1.2.2 := (show (pu_s48 L xs).1.2.2 = pu_fk [(125, (1, 10, 0))] (pu_s47 L xs).1.2.2 from rfl).trans ((congrArg (pu_fk [(125, (1, 10, 0))]) (pu_eK47 L xs)).trans (pu_fk_app [(125, (1, 10, 0))] pu_oK47 _).symm)
def pu_oK49 : List (Nat × pu_Q) := [(128, (2, 0, 8)), (127, (2, 0, 8)), (126, (2, 0, 8))] ++ pu_oK48
set_option maxRecDepth 100000 in
theorem pu_eK49 (L : Nat) (xs : Nat → Int32) : (pu_s49 L xs).1.2.2 = pu_fk pu_oK49 (pe_h0 L xs).1.2.2 := (show (pu_s49 L xs).1.2.2 = pu_fk [(128, (2, 0, 8)), (127, (2, 0, 8)), (126, (2, 0, 8))] (pu_s48 L xs).1.2.2 from rfl).trans ((congrArg (pu_fk [(128, (2, 0, 8)), (127, (2, 0, 8)), (126, (2, 0, 8))]) (pu_eK48 L xs)).trans (pu_fk_app [(128, (2, 0, 8)), (127, (2, 0, 8)), (126, (2, 0, 8))] pu_oK48 _).symm)
def pu_oK50 : List (Nat × pu_Q) := [(130, (2, 0, 8)), (129, (2, 0, 256))] ++ pu_oK49
set_option maxRecDepth 100000 in
theorem pu_eK50 (L : Nat) (xs : Nat → Int32) : (pu_s50 L xs).1.2.2 = pu_fk pu_oK50 (pe_h0 L xs).1.2.2 := (show (pu_s50 L xs).1.2.2 = pu_fk [(130, (2, 0, 8)), (129, (2, 0, 256))] (pu_s49 L xs).1.2.2 from rfl).trans ((congrArg (pu_fk [(130, (2, 0, 8)), (129, (2, 0, 256))]) (pu_eK49 L xs)).trans (pu_fk_app [(130, (2, 0, 8)), (129, (2, 0, 256))] pu_oK49 _).symm)
def pu_oK51 : List (Nat × pu_Q) := [(133, (1, 11, 0)), (132, (2, 1, 24)), (131, (2, 0, 24))] ++ pu_oK50
set_option maxRecDepth 100000 in
theorem pu_eK51 (L : Nat) (xs : Nat → Int32) : (pu_s51 L xs).1.2.2 = pu_fk pu_oK51 (pe_h0 L xs).1.2.2 := (show (pu_s51 L xs).1.2.2 = pu_fk [(133, (1, 11, 0)), (132, (2, 1, 24)), (131, (2, 0, 24))] (pu_s50 L xs).1.2.2 from rfl).trans ((congrArg (pu_fk [(133, (1, 11, 0)), (132, (2, 1, 24)), (131, (2, 0, 24))]) (pu_eK50 L xs)).trans (pu_fk_app [(133, (1, 11, 0)), (132, (2, 1, 24)), (131, (2, 0, 24))] pu_oK50 _).symm)
def pu_oK52 : List (Nat × pu_Q) := [] ++ pu_oK51
set_option maxRecDepth 100000 in
theorem pu_eK52 (L : Nat) (xs : Nat → Int32) : (pu_s52 L xs).1.2.2 = pu_fk pu_oK52 (pe_h0 L xs).1.2.2 := (show (pu_s52 L xs).1.2.2 = pu_fk [] (pu_s51 L xs).1.2.2 from rfl).trans ((congrArg (pu_fk []) (pu_eK51 L xs)).trans (pu_fk_app [] pu_oK51 _).symm)
def pu_oK53 : List (Nat × pu_Q) := [(134, (1, 11, 0))] ++ pu_oK52
set_option maxRecDepth 100000 in
theorem pu_eK53 (L : Nat) (xs : Nat → Int32) : (pu_s53 L xs).1.2.2 = pu_fk pu_oK53 (pe_h0 L xs).1.2.2 := (show (pu_s53 L xs).1.2.2 = pu_fk [(134, (1, 11, 0))] (pu_s52 L xs).1.2.2 from rfl).trans ((congrArg (pu_fk [(134, (1, 11, 0))]) (pu_eK52 L xs)).trans (pu_fk_app [(134, (1, 11, 0))] pu_oK52 _).symm)
def pu_oK54 : List (Nat × pu_Q) := [] ++ pu_oK53
set_option maxRecDepth 100000 in
theorem pu_eK54 (L : Nat) (xs : Nat → Int32) : (pu_s54 L xs).1.2.2 = pu_fk pu_oK54 (pe_h0 L xs).1.2.2 := (show (pu_s54 L xs).1.2.2 = pu_fk [] (pu_s53 L xs).1.2.2 from rfl).trans ((congrArg (pu_fk []) (pu_eK53 L xs)).trans (pu_fk_app [] pu_oK53 _).symm)
def pu_oK55 : List (Nat × pu_Q) := [(135, (1, 11, 0))] ++ pu_oK54
set_option maxRecDepth 100000 in
theorem pu_eK55 (L : Nat) (xs : Nat → Int32) : (pu_s55 L xs).1.2.2 = pu_fk pu_oK55 (pe_h0 L xs).1.2.2 := (show (pu_s55 L xs).1.2.2 = pu_fk [(135, (1, 11, 0))] (pu_s54 L xs).1.2.2 from rfl).trans ((congrArg (pu_fk [(135, (1, 11, 0))]) (pu_eK54 L xs)).trans (pu_fk_app [(135, (1, 11, 0))] pu_oK54 _).symm)
def pu_oK56 : List (Nat × pu_Q) := [] ++ pu_oK55
set_option maxRecDepth 100000 in
theorem pu_eK56 (L : Nat) (xs : Nat → Int32) : (pu_s56 L xs).1.2.2 = pu_fk pu_oK56 (pe_h0 L xs).1.2.2 := (show (pu_s56 L xs).1.2.2 = pu_fk [] (pu_s55 L xs).1.2.2 from rfl).trans ((congrArg (pu_fk []) (pu_eK55 L xs)).trans (pu_fk_app [] pu_oK55 _).symm)
def pu_oK57 : List (Nat × pu_Q) := [(136, (1, 11, 0))] ++ pu_oK56
set_option maxRecDepth 100000 in
theorem pu_eK57 (L : Nat) (xs : Nat → Int32) : (pu_s57 L xs).1.2.2 = pu_fk pu_oK57 (pe_h0 L xs).1.2.2 := (show (pu_s57 L xs).1.2.2 = pu_fk [(136, (1, 11, 0))] (pu_s56 L xs).1.2.2 from rfl).trans ((congrArg (pu_fk [(136, (1, 11, 0))]) (pu_eK56 L xs)).trans (pu_fk_app [(136, (1, 11, 0))] pu_oK56 _).symm)
def pu_oK58 : List (Nat × pu_Q) := [] ++ pu_oK57
set_option maxRecDepth 100000 in
theorem pu_eK58 (L : Nat) (xs : Nat → Int32) : (pu_s58 L xs).1.2.2 = pu_fk pu_oK58 (pe_h0 L xs).1.2.2 := (show (pu_s58 L xs).1.2.2 = pu_fk [] (pu_s57 L xs).1.2.2 from rfl).trans ((congrArg (pu_fk []) (pu_eK57 L xs)).trans (pu_fk_app [] pu_oK57 _).symm)
def pu_oK59 : List (Nat × pu_Q) := [(137, (1, 5, 0))] ++ pu_oK58
set_option maxRecDepth 100000 in
theorem pu_eK59 (L : Nat) (xs : Nat → Int32) : (pu_s59 L xs).1.2.2 = pu_fk pu_oK59 (pe_h0 L xs).1.2.2 := (show (pu_s59 L xs).1.2.2 = pu_fk [(137, (1, 5, 0))] (pu_s58 L xs).1.2.2 from rfl).trans ((congrArg (pu_fk [(137, (1, 5, 0))]) (pu_eK58 L xs)).trans (pu_fk_app [(137, (1, 5, 0))] pu_oK58 _).symm)
def pu_oK60 : List (Nat × pu_Q) := [(139, (2, 2, 8)), (138, (2, 2, 8))] ++ pu_oK59
set_option maxRecDepth 100000 in
theorem pu_eK60 (L : Nat) (xs : Nat → Int32) : (pu_s60 L xs).1.2.2 = pu_fk pu_oK60 (pe_h0 L xs).1.2.2 := (show (pu_s60 L xs).1.2.2 = pu_fk [(139, (2, 2, 8)), (138, (2, 2, 8))] (pu_s59 L xs).1.2.2 from rfl).trans ((congrArg (pu_fk [(139, (2, 2, 8)), (138, (2, 2, 8))]) (pu_eK59 L xs)).trans (pu_fk_app [(139, (2, 2, 8)), (138, (2, 2, 8))] pu_oK59 _).symm)
def pu_oK61 : List (Nat × pu_Q) := [(140, (2, 0, 2))] ++ pu_oK60
set_option maxRecDepth 100000 in
theorem pu_eK61 (L : Nat) (xs : Nat → Int32) : (pu_s61 L xs).1.2.2 = pu_fk pu_oK61 (pe_h0 L xs).1.2.2 := (show (pu_s61 L xs).1.2.2 = pu_fk [(140, (2, 0, 2))] (pu_s60 L xs).1.2.2 from rfl).trans ((congrArg (pu_fk [(140, (2, 0, 2))]) (pu_eK60 L xs)).trans (pu_fk_app [(140, (2, 0, 2))] pu_oK60 _).symm)
def pu_oK62 : List (Nat × pu_Q) := [] ++ pu_oK61
set_option maxRecDepth 100000 in
theorem pu_eK62 (L : Nat) (xs : Nat → Int32) : (pu_s62 L xs).1.2.2 = pu_fk pu_oK62 (pe_h0 L xs).1.2.2 := (show (pu_s62 L xs).1.2.2 = pu_fk [] (pu_s61 L xs).1.2.2 from rfl).trans ((congrArg (pu_fk []) (pu_eK61 L xs)).trans (pu_fk_app [] pu_oK61 _).symm)
def pu_oK63 : List (Nat × pu_Q) := [(141, (1, 5, 0))] ++ pu_oK62
set_option maxRecDepth 100000 in
theorem pu_eK63 (L : Nat) (xs : Nat → Int32) : (pu_s63 L xs).1.2.2 = pu_fk pu_oK63 (pe_h0 L xs).1.2.2 := (show (pu_s63 L xs).1.2.2 = pu_fk [(141, (1, 5, 0))] (pu_s62 L xs).1.2.2 from rfl).trans ((congrArg (pu_fk [(141, (1, 5, 0))]) (pu_eK62 L xs)).trans (pu_fk_app [(141, (1, 5, 0))] pu_oK62 _).symm)
def pu_oK64 : List (Nat × pu_Q) := [(143, (2, 2, 8)), (142, (2, 2, 8))] ++ pu_oK63
set_option maxRecDepth 100000 in
theorem pu_eK64 (L : Nat) (xs : Nat → Int32) : (pu_s64 L xs).1.2.2 = pu_fk pu_oK64 (pe_h0 L xs).1.2.2 := (show (pu_s64 L xs).1.2.2 = pu_fk [(143, (2, 2, 8)), (142, (2, 2, 8))] (pu_s63 L xs).1.2.2 from rfl).trans ((congrArg (pu_fk [(143, (2, 2, 8)), (142, (2, 2, 8))]) (pu_eK63 L xs)).trans (pu_fk_app [(143, (2, 2, 8)), (142, (2, 2, 8))] pu_oK63 _).symm)
def pu_oK65 : List (Nat × pu_Q) := [(144, (2, 0, 2))] ++ pu_oK64
set_option maxRecDepth 100000 in
theorem pu_eK65 (L : Nat) (xs : Nat → Int32) : (pu_s65 L xs).1.2.2 = pu_fk pu_oK65 (pe_h0 L xs).1.2.2 := (show (pu_s65 L xs).1.2.2 = pu_fk [(144, (2, 0, 2))] (pu_s64 L xs).1.2.2 from rfl).trans ((congrArg (pu_fk [(144, (2, 0, 2))]) (pu_eK64 L xs)).trans (pu_fk_app [(144, (2, 0, 2))] pu_oK64 _).symm)
def pu_oK66 : List (Nat × pu_Q) := [] ++ pu_oK65
set_option maxRecDepth 100000 in
theorem pu_eK66 (L : Nat) (xs : Nat → Int32) : (pu_s66 L xs).1.2.2 = pu_fk pu_oK66 (pe_h0 L xs).1.2.2 := (show (pu_s66 L xs).1.2.2 = pu_fk [] (pu_s65 L xs).1.2.2 from rfl).trans ((congrArg (pu_fk []) (pu_eK65 L xs)).trans (pu_fk_app [] pu_oK65 _).symm)
def pu_oK67 : List (Nat × pu_Q) := [] ++ pu_oK66
set_option maxRecDepth 100000 in
theorem pu_eK67 (L : Nat) (xs : Nat → Int32) : (pu_s67 L xs).1.2.2 = pu_fk pu_oK67 (pe_h0 L xs).1.2.2 := (show (pu_s67 L xs).1.2.2 = pu_fk [] (pu_s66 L xs).1.2.2 from rfl).trans ((congrArg (pu_fk []) (pu_eK66 L xs)).trans (pu_fk_app [] pu_oK66 _).symm)
def pu_oK68 : List (Nat × pu_Q) := [(145, (1, 12, 0))] ++ pu_oK67
set_option maxRecDepth 100000 in
theorem pu_eK68 (L : Nat) (xs : Nat → Int32) : (pu_s68 L xs).1.2.2 = pu_fk pu_oK68 (pe_h0 L xs).1.2.2 := (show (pu_s68 L xs).1.2.2 = pu_fk [(145, (1, 12, 0))] (pu_s67 L xs).1.2.2 from rfl).trans ((congrArg (pu_fk [(145, (1, 12, 0))]) (pu_eK67 L xs)).trans (pu_fk_app [(145, (1, 12, 0))] pu_oK67 _).symm)
def pu_oK69 : List (Nat × pu_Q) := [(149, (2, 0, 9)), (148, (2, 0, 9)), (147, (2, 1, 2)), (146, (2, 2, 128))] ++ pu_oK68
set_option maxRecDepth 100000 in
theorem pu_eK69 (L : Nat) (xs : Nat → Int32) : (pu_s69 L xs).1.2.2 = pu_fk pu_oK69 (pe_h0 L xs).1.2.2 := (show (pu_s69 L xs).1.2.2 = pu_fk [(149, (2, 0, 9)), (148, (2, 0, 9)), (147, (2, 1, 2)), (146, (2, 2, 128))] (pu_s68 L xs).1.2.2 from rfl).trans ((congrArg (pu_fk [(149, (2, 0, 9)), (148, (2, 0, 9)), (147, (2, 1, 2)), (146, (2, 2, 128))]) (pu_eK68 L xs)).trans (pu_fk_app [(149, (2, 0, 9)), (148, (2, 0, 9)), (147, (2, 1, 2)), (146, (2, 2, 128))] pu_oK68 _).symm)
def pu_oK70 : List (Nat × pu_Q) := [(153, (2, 0, 300)), (152, (2, 0, 4)), (151, (2, 0, 64)), (150, (2, 0, 64))] ++ pu_oK69
set_option maxRecDepth 100000 in
theorem pu_eK70 (L : Nat) (xs : Nat → Int32) : (pu_s70 L xs).1.2.2 = pu_fk pu_oK70 (pe_h0 L xs).1.2.2 := (show (pu_s70 L xs).1.2.2 = pu_fk [(153, (2, 0, 300)), (152, (2, 0, 4)), (151, (2, 0, 64)), (150, (2, 0, 64))] (pu_s69 L xs).1.2.2 from rfl).trans ((congrArg (pu_fk [(153, (2, 0, 300)), (152, (2, 0, 4)), (151, (2, 0, 64)), (150, (2, 0, 64))]) (pu_eK69 L xs)).trans (pu_fk_app [(153, (2, 0, 300)), (152, (2, 0, 4)), (151, (2, 0, 64)), (150, (2, 0, 64))] pu_oK69 _).symm)
def pu_oK71 : List (Nat × pu_Q) := [(157, (2, 0, 4)), (156, (2, 2, 16)), (155, (2, 0, 24)), (154, (2, 0, 96))] ++ pu_oK70
set_option maxRecDepth 100000 in
theorem pu_eK71 (L : Nat) (xs : Nat → Int32) : (pu_s71 L xs).1.2.2 = pu_fk pu_oK71 (pe_h0 L xs).1.2.2 := (show (pu_s71 L xs).1.2.2 = pu_fk [(157, (2, 0, 4)), (156, (2, 2, 16)), (155, (2, 0, 24)), (154, (2, 0, 96))] (pu_s70 L xs).1.2.2 from rfl).trans ((congrArg (pu_fk [(157, (2, 0, 4)), (156, (2, 2, 16)), (155, (2, 0, 24)), (154, (2, 0, 96))]) (pu_eK70 L xs)).trans (pu_fk_app [(157, (2, 0, 4)), (156, (2, 2, 16)), (155, (2, 0, 24)), (154, (2, 0, 96))] pu_oK70 _).symm)
def pu_oK72 : List (Nat × pu_Q) := [(161, (2, 0, 32)), (160, (2, 1, 32)), (159, (2, 2, 32)), (158, (2, 2, 32))] ++ pu_oK71
set_option maxRecDepth 100000 in
theorem pu_eK72 (L : Nat) (xs : Nat → Int32) : (pu_s72 L xs).1.2.2 = pu_fk pu_oK72 (pe_h0 L xs).1.2.2 := (show (pu_s72 L xs).1.2.2 = pu_fk [(161, (2, 0, 32)), (160, (2, 1, 32)), (159, (2, 2, 32)), (158, (2, 2, 32))] (pu_s71 L xs).1.2.2 from rfl).trans ((congrArg (pu_fk [(161, (2, 0, 32)), (160, (2, 1, 32)), (159, (2, 2, 32)), (158, (2, 2, 32))]) (pu_eK71 L xs)).trans (pu_fk_app [(161, (2, 0, 32)), (160, (2, 1, 32)), (159, (2, 2, 32)), (158, (2, 2, 32))] pu_oK71 _).symm)
def pu_oK73 : List (Nat × pu_Q) := [(165, (2, 0, 8)), (164, (2, 2, 32)), (163, (2, 0, 32)), (162, (2, 2, 32))] ++ pu_oK72
set_option maxRecDepth 100000 in
theorem pu_eK73 (L : Nat) (xs : Nat → Int32) : (pu_s73 L xs).1.2.2 = pu_fk pu_oK73 (pe_h0 L xs).1.2.2 := (show (pu_s73 L xs).1.2.2 = pu_fk [(165, (2, 0, 8)), (164, (2, 2, 32)), (163, (2, 0, 32)), (162, (2, 2, 32))] (pu_s72 L xs).1.2.2 from rfl).trans ((congrArg (pu_fk [(165, (2, 0, 8)), (164, (2, 2, 32)), (163, (2, 0, 32)), (162, (2, 2, 32))]) (pu_eK72 L xs)).trans (pu_fk_app [(165, (2, 0, 8)), (164, (2, 2, 32)), (163, (2, 0, 32)), (162, (2, 2, 32))] pu_oK72 _).symm)
def pu_oK74 : List (Nat × pu_Q) := [(169, (2, 0, 8)), (168, (2, 0, 8)), (167, (2, 0, 8)), (166, (2, 0, 8))] ++ pu_oK73
set_option maxRecDepth 100000 in
theorem pu_eK74 (L : Nat) (xs : Nat → Int32) : (pu_s74 L xs).1.2.2 = pu_fk pu_oK74 (pe_h0 L xs).1.2.2 := (show (pu_s74 L xs).1.2.2 = pu_fk [(169, (2, 0, 8)), (168, (2, 0, 8)), (167, (2, 0, 8)), (166, (2, 0, 8))] (pu_s73 L xs).1.2.2 from rfl).trans ((congrArg (pu_fk [(169, (2, 0, 8)), (168, (2, 0, 8)), (167, (2, 0, 8)), (166, (2, 0, 8))]) (pu_eK73 L xs)).trans (pu_fk_app [(169, (2, 0, 8)), (168, (2, 0, 8)), (167, (2, 0, 8)), (166, (2, 0, 8))] pu_oK73 _).symm)
def pu_oK75 : List (Nat × pu_Q) := [(173, (2, 0, 256)), (172, (2, 0, 16)), (171, (2, 0, 3)), (170, (2, 0, 256))] ++ pu_oK74
set_option maxRecDepth 100000 in
theorem pu_eK75 (L : Nat) (xs : Nat → Int32) : (pu_s75 L xs).1.2.2 = pu_fk pu_oK75 (pe_h0 L xs).1.2.2 := (show (pu_s75 L xs).1.2.2 = pu_fk [(173, (2, 0, 256)), (172, (2, 0, 16)), (171, (2, 0, 3)), (170, (2, 0, 256))] (pu_s74 L xs).1.2.2 from rfl).trans ((congrArg (pu_fk [(173, (2, 0, 256)), (172, (2, 0, 16)), (171, (2, 0, 3)), (170, (2, 0, 256))]) (pu_eK74 L xs)).trans (pu_fk_app [(173, (2, 0, 256)), (172, (2, 0, 16)), (171, (2, 0, 3)), (170, (2, 0, 256))] pu_oK74 _).symm)
def pu_oK76 : List (Nat × pu_Q) := [(177, (2, 1, 256)), (176, (2, 0, 8)), (175, (2, 0, 8)), (174, (2, 0, 8))] ++ pu_oK75
set_option maxRecDepth 100000 in
theorem pu_eK76 (L : Nat) (xs : Nat → Int32) : (pu_s76 L xs).1.2.2 = pu_fk pu_oK76 (pe_h0 L xs).1.2.2 := (show (pu_s76 L xs).1.2.2 = pu_fk [(177, (2, 1, 256)), (176, (2, 0, 8)), (175, (2, 0, 8)), (174, (2, 0, 8))] (pu_s75 L xs).1.2.2 from rfl).trans ((congrArg (pu_fk [(177, (2, 1, 256)), (176, (2, 0, 8)), (175, (2, 0, 8)), (174, (2, 0, 8))]) (pu_eK75 L xs)).trans (pu_fk_app [(177, (2, 1, 256)), (176, (2, 0, 8)), (175, (2, 0, 8)), (174, (2, 0, 8))] pu_oK75 _).symm)
def pu_oK77 : List (Nat × pu_Q) := [(181, (2, 0, 25)), (180, (2, 1, 24)), (179, (2, 0, 24)), (178, (2, 1, 256))] ++ pu_oK76
set_option maxRecDepth 100000 in
theorem pu_eK77 (L : Nat) (xs : Nat → Int32) : (pu_s77 L xs).1.2.2 = pu_fk pu_oK77 (pe_h0 L xs).1.2.2 := (show (pu_s77 L xs).1.2.2 = pu_fk [(181, (2, 0, 25)), (180, (2, 1, 24)), (179, (2, 0, 24)), (178, (2, 1, 256))] (pu_s76 L xs).1.2.2 from rfl).trans ((congrArg (pu_fk [(181, (2, 0, 25)), (180, (2, 1, 24)), (179, (2, 0, 24)), (178, (2, 1, 256))]) (pu_eK76 L xs)).trans (pu_fk_app [(181, (2, 0, 25)), (180, (2, 1, 24)), (179, (2, 0, 24)), (178, (2, 1, 256))] pu_oK76 _).symm)
def pu_oK78 : List (Nat × pu_Q) := [] ++ pu_oK77
set_option maxRecDepth 100000 in
theorem pu_eK78 (L : Nat) (xs : Nat → Int32) : (pu_s78 L xs).1.2.2 = pu_fk pu_oK78 (pe_h0 L xs).1.2.2 := (show (pu_s78 L xs).1.2.2 = pu_fk [] (pu_s77 L xs).1.2.2 from rfl).trans ((congrArg (pu_fk []) (pu_eK77 L xs)).trans (pu_fk_app [] pu_oK77 _).symm)
def pu_oK79 : List (Nat × pu_Q) := [] ++ pu_oK78
set_option maxRecDepth 100000 in
theorem pu_eK79 (L : Nat) (xs : Nat → Int32) : (pu_s79 L xs).1.2.2 = pu_fk pu_oK79 (pe_h0 L xs).1.2.2 := (show (pu_s79 L xs).1.2.2 = pu_fk [] (pu_s78 L xs).1.2.2 from rfl).trans ((congrArg (pu_fk []) (pu_eK78 L xs)).trans (pu_fk_app [] pu_oK78 _).symm)
def pu_oK80 : List (Nat × pu_Q) := [] ++ pu_oK79
set_option maxRecDepth 100000 in
theorem pu_eK80 (L : Nat) (xs : Nat → Int32) : (pu_s80 L xs).1.2.2 = pu_fk pu_oK80 (pe_h0 L xs).1.2.2 := (show (pu_s80 L xs).1.2.2 = pu_fk [] (pu_s79 L xs).1.2.2 from rfl).trans ((congrArg (pu_fk []) (pu_eK79 L xs)).trans (pu_fk_app [] pu_oK79 _).symm)
def pu_oK81 : List (Nat × pu_Q) := [] ++ pu_oK80
set_option maxRecDepth 100000 in
theorem pu_eK81 (L : Nat) (xs : Nat → Int32) : (pu_s81 L xs).1.2.2 = pu_fk pu_oK81 (pe_h0 L xs).1.2.2 := (show (pu_s81 L xs).1.2.2 = pu_fk [] (pu_s80 L xs).1.2.2 from rfl).trans ((congrArg (pu_fk []) (pu_eK80 L xs)).trans (pu_fk_app [] pu_oK80 _).symm)
def pu_oK82 : List (Nat × pu_Q) := [] ++ pu_oK81
set_option maxRecDepth 100000 in
theorem pu_eK82 (L : Nat) (xs : Nat → Int32) : (pu_s82 L xs).1.2.2 = pu_fk pu_oK82 (pe_h0 L xs).1.2.2 := (show (pu_s82 L xs).1.2.2 = pu_fk [] (pu_s81 L xs).1.2.2 from rfl).trans ((congrArg (pu_fk []) (pu_eK81 L xs)).trans (pu_fk_app [] pu_oK81 _).symm)
def pu_oK83 : List (Nat × pu_Q) := [] ++ pu_oK82
set_option maxRecDepth 100000 in
theorem pu_eK83 (L : Nat) (xs : Nat → Int32) : (pu_s83 L xs).1.2.2 = pu_fk pu_oK83 (pe_h0 L xs).1.2.2 := (show (pu_s83 L xs).1.2.2 = pu_fk [] (pu_s82 L xs).1.2.2 from rfl).trans ((congrArg (pu_fk []) (pu_eK82 L xs)).trans (pu_fk_app [] pu_oK82 _).symm)
def pu_oK84 : List (Nat × pu_Q) := [] ++ pu_oK83
set_option maxRecDepth 100000 in
theorem pu_eK84 (L : Nat) (xs : Nat → Int32) : (pu_s84 L xs).1.2.2 = pu_fk pu_oK84 (pe_h0 L xs).1.2.2 := (show (pu_s84 L xs).1.2.2 = pu_fk [] (pu_s83 L xs).1.2.2 from rfl).trans ((congrArg (pu_fk []) (pu_eK83 L xs)).trans (pu_fk_app [] pu_oK83 _).symm)
def pu_oK85 : List (Nat × pu_Q) := [] ++ pu_oK84
set_option maxRecDepth 100000 in
theorem pu_eK85 (L : Nat) (xs : Nat → Int32) : (pu_s85 L xs).1.2.2 = pu_fk pu_oK85 (pe_h0 L xs).1.2.2 := (show (pu_s85 L xs).1.2.2 = pu_fk [] (pu_s84 L xs).1.2.2 from rfl).trans ((congrArg (pu_fk []) (pu_eK84 L xs)).trans (pu_fk_app [] pu_oK84 _).symm)
def pu_oK86 : List (Nat × pu_Q) := [] ++ pu_oK85
set_option maxRecDepth 100000 in
theorem pu_eK86 (L : Nat) (xs : Nat → Int32) : (pu_s86 L xs).1.2.2 = pu_fk pu_oK86 (pe_h0 L xs).1.2.2 := (show (pu_s86 L xs).1.2.2 = pu_fk [] (pu_s85 L xs).1.2.2 from rfl).trans ((congrArg (pu_fk []) (pu_eK85 L xs)).trans (pu_fk_app [] pu_oK85 _).symm)
def pu_oK87 : List (Nat × pu_Q) := [] ++ pu_oK86
set_option maxRecDepth 100000 in
theorem pu_eK87 (L : Nat) (xs : Nat → Int32) : (pu_s87 L xs).1.2.2 = pu_fk pu_oK87 (pe_h0 L xs).1.2.2 := (show (pu_s87 L xs).1.2.2 = pu_fk [] (pu_s86 L xs).1.2.2 from rfl).trans ((congrArg (pu_fk []) (pu_eK86 L xs)).trans (pu_fk_app [] pu_oK86 _).symm)
def pu_TI (c : Nat) : List Int32 := cond (Nat.ble 182 c) [] (cond (Nat.ble 115 c) (cond (Nat.ble 148 c) (cond (Nat.ble 165 c) ([]) (cond (Nat.ble 156 c) (cond (Nat.ble 160 c) ([]) (cond (Nat.ble 158 c) ([]) (cond (Nat.ble 157 c) ([(-1), (-1), (-1), (-1)]) ([])))) (cond (Nat.ble 152 c) ([]) (cond (Nat.ble 150 c) ([]) (cond (Nat.ble 149 c) ([]) ([2, 20, 40, 30, 10, 300, 60, 150])))))) (cond (Nat.ble 131 c) (cond (Nat.ble 139 c) (cond (Nat.ble 143 c) (cond (Nat.ble 145 c) (cond (Nat.ble 146 c) ([]) ([0, 0, 0, 0, 0, 0, 0, 0, 0, 0, 0, 0, 0, (-1)])) (cond (Nat.ble 144 c) ([8, 8]) ([]))) (cond (Nat.ble 141 c) ([]) (cond (Nat.ble 140 c) ([8, 8]) ([])))) (cond (Nat.ble 135 c) (cond (Nat.ble 137 c) ([]) ([1])) (cond (Nat.ble 133 c) ([1]) ([])))) ([]))) (cond (Nat.ble 81 c) (cond (Nat.ble 98 c) (cond (Nat.ble 106 c) ([]) (cond (Nat.ble 102 c) (cond (Nat.ble 104 c) ([]) (cond (Nat.ble 103 c) ([(-1), (-1), (-1), (-1)]) ([8, 8]))) (cond (Nat.ble 100 c) ([]) (cond (Nat.ble 99 c) ([]) ([0, (-1), (-1), (-1), (-1)]))))) (cond (Nat.ble 89 c) (cond (Nat.ble 93 c) (cond (Nat.ble 95 c) (cond (Nat.ble 96 c) ([]) ([8, 8])) ([])) ([])) ([]))) (cond (Nat.ble 64 c) (cond (Nat.ble 72 c) ([]) (cond (Nat.ble 68 c) ([]) (cond (Nat.ble 66 c) (cond (Nat.ble 67 c) ([2, 20, 40, 30, 10, 300, 60, 150]) ([])) ([])))) (cond (Nat.ble 56 c) ([]) (cond (Nat.ble 52 c) (cond (Nat.ble 54 c) ([]) (cond (Nat.ble 53 c) ([]) ([2, 20, 40, 30, 10, 300, 60, 150]))) (cond (Nat.ble 50 c) ([]) (cond (Nat.ble 49 c) ([0, 0, 0, 0, (-1)]) ([]))))))))
def pu_TL (c : Nat) : List Int64 := cond (Nat.ble 182 c) [] (cond (Nat.ble 115 c) (cond (Nat.ble 148 c) ([]) (cond (Nat.ble 131 c) (cond (Nat.ble 139 c) (cond (Nat.ble 143 c) (cond (Nat.ble 145 c) (cond (Nat.ble 146 c) (cond (Nat.ble 147 c) ([]) ([0, 0, 0, 0, 0, 0, 0, 0, 0, 0, 0, 0, 0, 0, 0, 0, 0, 0, 0, 0, 0, 0, 0, 0, 0, 0, 8, 8])) ([])) ([])) ([])) (cond (Nat.ble 135 c) (cond (Nat.ble 137 c) ([]) ([0, 0, 0, 1152921504606846976])) (cond (Nat.ble 133 c) ([0, 0, 0, 1152921504606846976]) ([])))) ([]))) ([]))
def pu_TR (t dt n dn : Nat) (c : Nat) : List (Option Nat) := cond (Nat.ble 182 c) [] (cond (Nat.ble 115 c) (cond (Nat.ble 148 c) ([]) (cond (Nat.ble 131 c) (cond (Nat.ble 139 c) (cond (Nat.ble 143 c) (cond (Nat.ble 145 c) (cond (Nat.ble 146 c) ([]) ([some 146, some 147, some 148, some 149, some 150, some 151, some 152, some 153, none, none, none, none, none, none, none, some 154, none, some 155, none, some 156, some 157, some 158, some 159, some 160, some 161, some 162, none, none, some 163, some 164, some 165, some 166, some 167, none, some 168, some 169, some 170, none, none, some 171, some 172, none, some 173, some 174, none, some 175, none, some 176, some 177, some 178, some 179, some 180, none, some 181])) ([])) (cond (Nat.ble 141 c) (cond (Nat.ble 142 c) ([]) ([some 142, some 143, none, none, none, none, none, none, some 144])) ([]))) (cond (Nat.ble 135 c) (cond (Nat.ble 137 c) (cond (Nat.ble 138 c) ([]) ([some 138, some 139, none, none, none, none, none, none, some 140])) ([])) ([]))) (cond (Nat.ble 123 c) (cond (Nat.ble 127 c) ([]) (cond (Nat.ble 125 c) (cond (Nat.ble 126 c) ([]) ([some 126, some 127, none, none, some 128, some 129, some 130])) ([]))) (cond (Nat.ble 119 c) ([]) (cond (Nat.ble 117 c) (cond (Nat.ble 118 c) ([]) ([some 118, some 119, none, none, some 120, some 121, some 122, some 123, some 124])) ([])))))) (cond (Nat.ble 81 c) (cond (Nat.ble 98 c) (cond (Nat.ble 106 c) (cond (Nat.ble 110 c) (cond (Nat.ble 112 c) (cond (Nat.ble 113 c) ([]) ([some 113, some 114, some 115, some 116])) ([])) (cond (Nat.ble 108 c) (cond (Nat.ble 109 c) ([]) ([some 109, some 110, some 111])) ([]))) (cond (Nat.ble 102 c) (cond (Nat.ble 104 c) (cond (Nat.ble 105 c) ([]) ([some 105, some 106, some 107])) ([])) (cond (Nat.ble 100 c) ([]) (cond (Nat.ble 99 c) ([some 100, some 101, none, none, none, none, none, none, some 102]) ([some 99]))))) (cond (Nat.ble 89 c) (cond (Nat.ble 93 c) (cond (Nat.ble 95 c) (cond (Nat.ble 96 c) (cond (Nat.ble 97 c) ([]) ([some 137, some 141])) ([])) ([])) (cond (Nat.ble 91 c) (cond (Nat.ble 92 c) ([some 93, some 94, none, none, none, none, none, none, some 95]) ([some 133, some 134, some 135, some 136])) ([]))) (cond (Nat.ble 85 c) (cond (Nat.ble 87 c) ([]) (cond (Nat.ble 86 c) ([some 87, some 88, some 89, some 90]) ([]))) (cond (Nat.ble 83 c) ([]) (cond (Nat.ble 82 c) ([]) ([some 82, some 83, some 84, some 85])))))) (cond (Nat.ble 64 c) (cond (Nat.ble 72 c) (cond (Nat.ble 76 c) ([]) (cond (Nat.ble 74 c) (cond (Nat.ble 75 c) ([some 76, some 77, none, some 78, some 79, some 80]) ([])) ([]))) (cond (Nat.ble 68 c) (cond (Nat.ble 70 c) ([]) (cond (Nat.ble 69 c) ([some 70, some 71, none, some 72, some 73, some 74]) ([]))) (cond (Nat.ble 66 c) (cond (Nat.ble 67 c) ([]) ([some 67, some 68, some 69, some 75])) ([])))) (cond (Nat.ble 56 c) (cond (Nat.ble 60 c) (cond (Nat.ble 62 c) ([]) (cond (Nat.ble 61 c) ([]) ([some 61, some 62, none, some 63, some 64, some 65]))) ([])) (cond (Nat.ble 52 c) (cond (Nat.ble 54 c) (cond (Nat.ble 55 c) ([]) ([some 55, some 56, none, some 57, some 58, some 59])) ([])) (cond (Nat.ble 50 c) (cond (Nat.ble 51 c) ([some 52, some 53, some 54, some 60]) ([])) (cond (Nat.ble 49 c) ([some 50]) ([some 49, some t, some dt, some n, some dn, some 91, none, some 92, some 96, some 97, some 98, some 103, some 104, some 108, some 112, some 117, some 125, some 131, some 132]))))))))
def pu_TK (c : Nat) : pu_Q := cond (Nat.ble 182 c) (0, 0, 0) (cond (Nat.ble 115 c) (cond (Nat.ble 148 c) (cond (Nat.ble 165 c) (cond (Nat.ble 173 c) (cond (Nat.ble 177 c) (cond (Nat.ble 179 c) (cond (Nat.ble 180 c) (cond (Nat.ble 181 c) ((2, 0, 25)) ((2, 1, 24))) ((2, 0, 24))) ((2, 1, 256))) (cond (Nat.ble 175 c) ((2, 0, 8)) (cond (Nat.ble 174 c) ((2, 0, 8)) ((2, 0, 256))))) (cond (Nat.ble 169 c) (cond (Nat.ble 171 c) (cond (Nat.ble 172 c) ((2, 0, 16)) ((2, 0, 3))) (cond (Nat.ble 170 c) ((2, 0, 256)) ((2, 0, 8)))) ((2, 0, 8)))) (cond (Nat.ble 156 c) (cond (Nat.ble 160 c) (cond (Nat.ble 162 c) (cond (Nat.ble 163 c) (cond (Nat.ble 164 c) ((2, 2, 32)) ((2, 0, 32))) ((2, 2, 32))) (cond (Nat.ble 161 c) ((2, 0, 32)) ((2, 1, 32)))) (cond (Nat.ble 158 c) ((2, 2, 32)) (cond (Nat.ble 157 c) ((2, 0, 4)) ((2, 2, 16))))) (cond (Nat.ble 152 c) (cond (Nat.ble 154 c) (cond (Nat.ble 155 c) ((2, 0, 24)) ((2, 0, 96))) (cond (Nat.ble 153 c) ((2, 0, 300)) ((2, 0, 4)))) (cond (Nat.ble 150 c) ((2, 0, 64)) ((2, 0, 9)))))) (cond (Nat.ble 131 c) (cond (Nat.ble 139 c) (cond (Nat.ble 143 c) (cond (Nat.ble 145 c) (cond (Nat.ble 146 c) (cond (Nat.ble 147 c) ((2, 1, 2)) ((2, 2, 128))) ((1, 12, 0))) (cond (Nat.ble 144 c) ((2, 0, 2)) ((2, 2, 8)))) (cond (Nat.ble 141 c) (cond (Nat.ble 142 c) ((2, 2, 8)) ((1, 5, 0))) (cond (Nat.ble 140 c) ((2, 0, 2)) ((2, 2, 8))))) (cond (Nat.ble 135 c) (cond (Nat.ble 137 c) (cond (Nat.ble 138 c) ((2, 2, 8)) ((1, 5, 0))) ((1, 11, 0))) (cond (Nat.ble 133 c) ((1, 11, 0)) (cond (Nat.ble 132 c) ((2, 1, 24)) ((2, 0, 24)))))) (cond (Nat.ble 123 c) (cond (Nat.ble 127 c) (cond (Nat.ble 129 c) (cond (Nat.ble 130 c) ((2, 0, 8)) ((2, 0, 256))) ((2, 0, 8))) (cond (Nat.ble 125 c) (cond (Nat.ble 126 c) ((2, 0, 8)) ((1, 10, 0))) (cond (Nat.ble 124 c) ((2, 0, 8)) ((2, 0, 256))))) (cond (Nat.ble 119 c) (cond (Nat.ble 121 c) ((2, 0, 8)) (cond (Nat.ble 120 c) ((2, 0, 8)) ((2, 0, 3)))) (cond (Nat.ble 117 c) (cond (Nat.ble 118 c) ((2, 0, 3)) ((1, 9, 0))) ((2, 0, 8))))))) (cond (Nat.ble 81 c) (cond (Nat.ble 98 c) (cond (Nat.ble 106 c) (cond (Nat.ble 110 c) (cond (Nat.ble 112 c) (cond (Nat.ble 113 c) ((2, 0, 8)) ((1, 8, 0))) ((2, 0, 32))) (cond (Nat.ble 108 c) (cond (Nat.ble 109 c) ((2, 0, 32)) ((1, 7, 0))) ((2, 0, 32)))) (cond (Nat.ble 102 c) (cond (Nat.ble 104 c) (cond (Nat.ble 105 c) ((2, 0, 32)) ((1, 7, 0))) (cond (Nat.ble 103 c) ((2, 0, 4)) ((2, 0, 2)))) (cond (Nat.ble 100 c) ((2, 2, 8)) (cond (Nat.ble 99 c) ((1, 5, 0)) ((1, 6, 0)))))) (cond (Nat.ble 89 c) (cond (Nat.ble 93 c) (cond (Nat.ble 95 c) (cond (Nat.ble 96 c) (cond (Nat.ble 97 c) ((2, 1, 2)) ((2, 9, 2))) ((2, 0, 2))) ((2, 2, 8))) (cond (Nat.ble 91 c) (cond (Nat.ble 92 c) ((1, 5, 0)) ((2, 15, 4))) (cond (Nat.ble 90 c) ((2, 1, 12)) ((2, 0, 12))))) (cond (Nat.ble 85 c) (cond (Nat.ble 87 c) ((2, 0, 12)) (cond (Nat.ble 86 c) ((1, 4, 0)) ((2, 1, 12)))) (cond (Nat.ble 83 c) ((2, 0, 12)) (cond (Nat.ble 82 c) ((2, 0, 12)) ((1, 4, 0))))))) (cond (Nat.ble 64 c) (cond (Nat.ble 72 c) (cond (Nat.ble 76 c) (cond (Nat.ble 78 c) (cond (Nat.ble 79 c) (cond (Nat.ble 80 c) ((2, 1, 16)) ((2, 0, 16))) ((2, 0, 16))) ((2, 0, 16))) (cond (Nat.ble 74 c) (cond (Nat.ble 75 c) ((1, 3, 0)) ((2, 1, 16))) ((2, 0, 16)))) (cond (Nat.ble 68 c) (cond (Nat.ble 70 c) ((2, 0, 16)) (cond (Nat.ble 69 c) ((1, 3, 0)) ((2, 1, 8)))) (cond (Nat.ble 66 c) (cond (Nat.ble 67 c) ((2, 0, 9)) ((1, 2, 0))) (cond (Nat.ble 65 c) ((2, 1, 16)) ((2, 0, 16)))))) (cond (Nat.ble 56 c) (cond (Nat.ble 60 c) (cond (Nat.ble 62 c) ((2, 0, 16)) (cond (Nat.ble 61 c) ((2, 0, 16)) ((1, 3, 0)))) (cond (Nat.ble 58 c) (cond (Nat.ble 59 c) ((2, 1, 16)) ((2, 0, 16))) ((2, 0, 16)))) (cond (Nat.ble 52 c) (cond (Nat.ble 54 c) (cond (Nat.ble 55 c) ((2, 0, 16)) ((1, 3, 0))) (cond (Nat.ble 53 c) ((2, 1, 8)) ((2, 0, 9)))) (cond (Nat.ble 50 c) (cond (Nat.ble 51 c) ((1, 2, 0)) ((2, 0, 300))) (cond (Nat.ble 49 c) ((1, 1, 0)) ((1, 0, 0)))))))))
noncomputable def pu_I0 (L : Nat) (xs : Nat → Int32) (c s : Nat) : Int32 := cond (Nat.ble 48 c) (pm_at 0 (pu_TI c) s) ((pe_ro L xs c).2.1 s)
noncomputable def pu_L0 (c s : Nat) : Int64 := cond (Nat.ble 48 c) (pm_at 0 (pu_TL c) s) 0
noncomputable def pu_R (t dt n dn : Nat) (c s : Nat) : Option Nat := cond (Nat.ble 48 c) (pm_at none (pu_TR t dt n dn c) s) ((pe_ro 0 (fun _ => 0) c).2.2 s)
def pu_K (L : Nat) (c : Nat) : pu_Q := cond (Nat.ble 48 c) (pu_TK c) (pe_ro L (fun _ => 0) c).1
theorem pe_roK (L : Nat) (xs : Nat → Int32) (c : Nat) : (pe_ro L xs c).1 = (pe_ro L (fun _ => 0) c).1 := by
  unfold pe_ro
  repeat' split
  all_goals rfl
theorem pe_roR (L : Nat) (xs : Nat → Int32) (c : Nat) : (pe_ro L xs c).2.2 = (pe_ro 0 (fun _ => 0) c).2.2 := by
  unfold pe_ro
  repeat' split
  all_goals rfl
theorem pe_ro48 (L : Nat) (xs : Nat → Int32) (c : Nat) (hc : 48 ≤ c) : pe_ro L xs c = ((0, 0, 0), fun _ => 0, fun _ => none) := by
  have : pd_nJ ≤ 16 := by decide
  unfold pe_ro pe_nT
  rw [if_neg (by omega), if_neg (by omega), if_neg (by omega), if_neg (by omega)]
theorem pu_b48 {c : Nat} (hc : 48 ≤ c) : Nat.ble 48 c = true := Nat.ble_eq_true_of_le hc
theorem pu_b47 {c : Nat} (hc : ¬ 48 ≤ c) : Nat.ble 48 c = false := by
  cases e : Nat.ble 48 c with
  | false => rfl
  | true => exact absurd (Nat.le_of_ble_eq_true e) hc
theorem pu_fd_low {α : Type} (z : α) (l : List (pu_It α)) (hl : l.all (fun p => Nat.ble 48 p.1) = true) (f : Nat → Nat → α) (c s : Nat) (hc : ¬ 48 ≤ c) : pu_fd z l f c s = f c s := by
  rw [pu_fd_rd]
  have h7 : pu_of l c = [] := by
    rw [pu_of, List.filter_eq_nil_iff]
    intro p hp e
    have := Nat.eq_of_beq_eq_true e
    have : 48 ≤ p.1 := Nat.le_of_ble_eq_true (List.all_eq_true.mp hl p hp)
    omega
  rw [h7]; rfl
theorem pu_fk_low {α : Type} (l : List (Nat × α)) (hl : l.all (fun p => Nat.ble 48 p.1) = true) (f : Nat → α) (c : Nat) (hc : ¬ 48 ≤ c) : pu_fk l f c = f c := by
  induction l with
  | nil => rfl
  | cons p l ih =>
    obtain ⟨c1, q⟩ := p
    rw [List.all_cons, Bool.and_eq_true] at hl
    have : 48 ≤ c1 := Nat.le_of_ble_eq_true hl.1
    show (if c = c1 then q else pu_fk l f c) = f c
    rw [if_neg (by omega), ih hl.2]
theorem pu_lowI : pu_oI87.all (fun p => Nat.ble 48 p.1) = true := by decide +kernel
theorem pu_lowL : pu_oL87.all (fun p => Nat.ble 48 p.1) = true := by decide +kernel
theorem pu_lowR : pu_oR87.all (fun p => Nat.ble 48 p.1) = true := by decide +kernel
theorem pu_lowK : pu_oK87.all (fun p => Nat.ble 48 p.1) = true := by decide +kernel
set_option maxRecDepth 100000 in
theorem pu_f1I : pu_oI87.all (pu_nr 20) = true := by decide +kernel
set_option maxRecDepth 100000 in
theorem pu_f3I : pu_oI87.all (fun p => Nat.blt p.1 182) = true := by decide +kernel
set_option maxRecDepth 100000 in
theorem pu_f4I : ((List.range 182).all fun c => Nat.blt c 48 || (Nat.ble (pu_TI c).length 20 && (List.range 20).all fun s => (pu_rd 0 (pu_of pu_oI87 c) s).getD 0 == pm_at 0 (pu_TI c) s)) = true := by decide +kernel
theorem pu_f2I (c : Nat) (hc : 182 ≤ c) : pu_TI c = [] := by
  rw [pu_TI, Nat.ble_eq_true_of_le hc]; rfl
set_option maxRecDepth 100000 in
theorem pu_f1L : pu_oL87.all (pu_nr 28) = true := by decide +kernel
set_option maxRecDepth 100000 in
theorem pu_f3L : pu_oL87.all (fun p => Nat.blt p.1 182) = true := by decide +kernel
set_option maxRecDepth 100000 in
theorem pu_f4L : ((List.range 182).all fun c => Nat.blt c 48 || (Nat.ble (pu_TL c).length 28 && (List.range 28).all fun s => (pu_rd 0 (pu_of pu_oL87 c) s).getD 0 == pm_at 0 (pu_TL c) s)) = true := by decide +kernel
theorem pu_f2L (c : Nat) (hc : 182 ≤ c) : pu_TL c = [] := by
  rw [pu_TL, Nat.ble_eq_true_of_le hc]; rfl
set_option maxRecDepth 100000 in
theorem pu_f1R : pu_oR87.all (pu_nr 54) = true := by decide +kernel
set_option maxRecDepth 100000 in
theorem pu_f3R : pu_oR87.all (fun p => Nat.blt p.1 182) = true := by decide +kernel
set_option maxRecDepth 100000 in
theorem pu_f4R : ((List.range 182).all fun c => Nat.blt c 48 || (Nat.ble (pu_TR 51 66 81 86 c).length 54 && (List.range 54).all fun s => (pu_rd none (pu_of pu_oR87 c) s).getD none == pm_at none (pu_TR 51 66 81 86 c) s)) = true := by decide +kernel
theorem pu_f2R (c : Nat) (hc : 182 ≤ c) : pu_TR 51 66 81 86 c = [] := by
  rw [pu_TR, Nat.ble_eq_true_of_le hc]; rfl
set_option maxRecDepth 100000 in
theorem pu_fK : ((List.range 182).all fun c => Nat.blt c 48 || (pu_fl (0, 0, 0) pu_oK87 c == pu_TK c)) = true := by decide +kernel
theorem pu_f3K : pu_oK87.all (fun p => Nat.blt p.1 182) = true := by decide +kernel
theorem pu_flK (l : List (Nat × pu_Q)) (hl : l.all (fun p => Nat.blt p.1 182) = true) (c : Nat) (hc : 182 ≤ c) : pu_fl (0, 0, 0) l c = (0, 0, 0) := by
  induction l with
  | nil => rfl
  | cons p l ih =>
    obtain ⟨c1, q⟩ := p
    rw [List.all_cons, Bool.and_eq_true] at hl
    have h1 : c1 < 182 := Nat.le_of_ble_eq_true hl.1
    show (if Nat.beq c c1 then q else pu_fl (0, 0, 0) l c) = (0, 0, 0)
    have h2 : Nat.beq c c1 = false := by
      cases e : Nat.beq c c1 with
      | false => rfl
      | true => have := Nat.eq_of_beq_eq_true e; omega
    rw [h2]; exact ih hl.2
theorem pu_HI (L : Nat) (xs : Nat → Int32) : (pu_s87 L xs).2.1 = pu_I0 L xs := by
  rw [pu_eI87]
  funext c s
  by_cases hc : 48 ≤ c
  · rw [pu_fd_tab 0 pu_oI87 pu_TI 182 20 pu_f1I pu_f2I pu_f3I pu_f4I _ (fun c s hc => by show (pe_ro L xs c).2.1 s = 0; rw [pe_ro48 L xs c hc]) c s hc]
    show _ = cond (Nat.ble 48 c) _ _
    rw [pu_b48 hc]; rfl
  · rw [pu_fd_low 0 _ pu_lowI _ c s hc]
    show _ = cond (Nat.ble 48 c) _ _
    rw [pu_b47 hc]; rfl
theorem pu_HL (L : Nat) (xs : Nat → Int32) : (pu_s87 L xs).2.2.1 = pu_L0 := by
  rw [pu_eL87]
  funext c s
  by_cases hc : 48 ≤ c
  · rw [pu_fd_tab 0 pu_oL87 pu_TL 182 28 pu_f1L pu_f2L pu_f3L pu_f4L (pe_h0 L xs).2.2.1 (fun c s hc => rfl) c s hc]
    show _ = cond (Nat.ble 48 c) _ _
    rw [pu_b48 hc]; rfl
  · rw [pu_fd_low 0 _ pu_lowL _ c s hc]
    show _ = cond (Nat.ble 48 c) _ _
    rw [pu_b47 hc]; rfl
theorem pu_HR (L : Nat) (xs : Nat → Int32) : (pu_s87 L xs).2.2.2 = pu_R 51 66 81 86 := by
  rw [pu_eR87]
  funext c s
  by_cases hc : 48 ≤ c
  · rw [pu_fd_tab none pu_oR87 (pu_TR 51 66 81 86) 182 54 pu_f1R pu_f2R pu_f3R pu_f4R _ (fun c s hc => by show (pe_ro L xs c).2.2 s = none; rw [pe_ro48 L xs c hc]) c s hc]
    show _ = cond (Nat.ble 48 c) _ _
    rw [pu_b48 hc]; rfl
  · rw [pu_fd_low none _ pu_lowR _ c s hc]
    show (pe_ro L xs c).2.2 s = cond (Nat.ble 48 c) _ _
    rw [pu_b47 hc, pe_roR]; rfl
theorem pu_HK (L : Nat) (xs : Nat → Int32) : (pu_s87 L xs).1.2.2 = pu_K L := by
  rw [pu_eK87]
  funext c
  by_cases hc : 48 ≤ c
  · rw [pu_fk_fl (0, 0, 0) pu_oK87 _ c (by show (pe_ro L xs c).1 = (0, 0, 0); rw [pe_ro48 L xs c hc])]
    show _ = cond (Nat.ble 48 c) _ _
    rw [pu_b48 hc]
    by_cases hm : c < 182
    · have h5 := List.all_eq_true.mp pu_fK c (List.mem_range.mpr hm)
      have h6 : Nat.blt c 48 = false := by
        cases e : Nat.blt c 48 with
        | false => rfl
        | true => exact absurd (Nat.le_of_ble_eq_true e) (by omega)
      rw [h6, Bool.false_or] at h5
      exact eq_of_beq h5
    · rw [pu_flK _ pu_f3K c (by omega)]
      show _ = pu_TK c
      rw [pu_TK, Nat.ble_eq_true_of_le (by omega)]; rfl
  · rw [pu_fk_low _ pu_lowK _ c hc]
    show (pe_ro L xs c).1 = cond (Nat.ble 48 c) _ _
    rw [pu_b47 hc, pe_roK]; rfl
/-- the heap at the law's loop -/
noncomputable def pu_hp (L : Nat) (t dt n dn : Nat) (I : Nat → Nat → Int32) (G : Nat → Nat → Int64) : pm_H := ((182, 4061, pu_K L), I, G, pu_R t dt n dn)
theorem pu_HH (L : Nat) (xs : Nat → Int32) : pu_s87 L xs = pu_hp L 51 66 81 86 (pu_I0 L xs) pu_L0 := by
  have h1 : pu_s87 L xs = ((182, 4061, (pu_s87 L xs).1.2.2), (pu_s87 L xs).2.1, (pu_s87 L xs).2.2.1, (pu_s87 L xs).2.2.2) := rfl
  rw [h1, pu_HI, pu_HL, pu_HR, pu_HK]; rfl
theorem pu_start {d : Nat} {L : Nat} {xs : Nat → Int32} {Q : Option Value → pm_H → Prop} (K : pg (d + 3) 0 10 [.ref 0, .ref 48, .ref 145, .int 0] [] (pu_hp L 51 66 81 86 (pu_I0 L xs) pu_L0) Q) : pg (d + 3) 0 0 [.ref 0, .null, .null, .null] [] (pe_h0 L xs) Q := pu_start0 (by rw [pu_HH]; exact K)
