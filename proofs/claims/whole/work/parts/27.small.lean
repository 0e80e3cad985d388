/-! THE SMALL PAIRS -/
theorem pp_fault {L d : Nat} {Rep : pl_S → Prop} (h : ∀ S, Rep S → pl_I S 49 4 = pl_I S 141 13) : pl_pairI L Rep d 52 172 [] := by
  intro S hS
  refine ⟨Nat.le_of_ble_eq_true rfl, ?_⟩
  refine pg_ret (n := 4) (fun cl f => rfl) ⟨_, S, rfl, rfl, rfl, ?_⟩
  refine ⟨Nat.le_of_ble_eq_true rfl, ?_⟩
  refine pg_ret (n := 3) (fun cl f => rfl) ⟨S, ?_, rfl, hS⟩
  exact congrArg (fun x => some (Value.int x)) (h S hS).symm
