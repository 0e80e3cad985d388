/-! THE SIMULATION -/
def pm_M (h : pm_H) (x : Option Value × pm_H) : Prop := h.1.1 ≤ x.2.1.1 ∧ h.1.2.1 ≤ x.2.1.2.1
theorem pm_lks_any {f : Nat → pm_R} {d : Nat} {y : Int32} {z : Option Value × pm_H} : ∀ (ps : List (Int × Int)) (tg : List Nat), pm_lks f d y ps tg = some z → ∃ j, f j = some z := by
  intro ps
  induction ps with
  | nil => intro tg h; exact ⟨d, by cases tg <;> exact h⟩
  | cons q t ih =>
    intro tg h
    cases tg with
    | nil => exact ⟨d, h⟩
    | cons u tg =>
      have h : (if y.toInt = q.1 then f u else pm_lks f d y t tg) = some z := h
      split at h
      · exact ⟨u, h⟩
      · exact ih tg h
theorem pm_ldr_any {r : Option Nat} {f : Value → pm_R} {z : Option Value × pm_H} (h : pm_ldr r f = some z) : ∃ w, f w = some z := by
  rcases pm_ldr_e h with ⟨-, h⟩ | ⟨q, -, -, h⟩
  · exact ⟨_, h⟩
  · exact ⟨_, h⟩
theorem pm_mono_step {ins : Jvm.ClassFile.Instr} {a b c : Nat} {v : Value} {tg : List Nat} {i : Nat} {kk : pm_K} {call : Nat → List Value → pm_H → pm_R} {ls st : List Value} {h : pm_H} {x : Option Value × pm_H} (hk : ∀ i ls st h, kk i ls st h = some x → pm_M h x) (hcl : ∀ y as h r h1, call y as h = some (r, h1) → h.1.1 ≤ h1.1.1 ∧ h.1.2.1 ≤ h1.1.2.1) (h0 : pm_sem ins a b c v tg i kk call ls st h = some x) : pm_M h x := by
  cases ins with
  | iconst n =>
    exact hk _ _ _ _ h0
  | bipush n =>
    exact hk _ _ _ _ h0
  | sipush n =>
    exact hk _ _ _ _ h0
  | ldc n =>
    exact hk _ _ _ _ h0
  | ldc_w n =>
    exact hk _ _ _ _ h0
  | ldc2_w n =>
    exact hk _ _ _ _ h0
  | lconst n =>
    exact hk _ _ _ _ h0
  | getstatic n =>
    exact hk _ _ _ _ h0
  | goto off =>
    exact hk _ _ _ _ h0
  | iload_n n =>
    dsimp only [pm_sem] at h0
    split at h0
    · exact hk _ _ _ _ h0
    · cases h0
  | iload n =>
    dsimp only [pm_sem] at h0
    split at h0
    · exact hk _ _ _ _ h0
    · cases h0
  | lload_n n =>
    dsimp only [pm_sem] at h0
    split at h0
    · exact hk _ _ _ _ h0
    · cases h0
  | lload n =>
    dsimp only [pm_sem] at h0
    split at h0
    · exact hk _ _ _ _ h0
    · cases h0
  | aload_n n =>
    dsimp only [pm_sem] at h0
    split at h0
    · exact hk _ _ _ _ h0
    · cases h0
  | aload n =>
    dsimp only [pm_sem] at h0
    split at h0
    · exact hk _ _ _ _ h0
    · cases h0
  | istore_n n =>
    dsimp only [pm_sem] at h0
    split at h0
    · exact hk _ _ _ _ h0
    · cases h0
  | istore n =>
    dsimp only [pm_sem] at h0
    split at h0
    · exact hk _ _ _ _ h0
    · cases h0
  | lstore_n n =>
    dsimp only [pm_sem] at h0
    split at h0
    · exact hk _ _ _ _ h0
    · cases h0
  | lstore n =>
    dsimp only [pm_sem] at h0
    split at h0
    · exact hk _ _ _ _ h0
    · cases h0
  | astore_n n =>
    dsimp only [pm_sem] at h0
    split at h0
    · exact hk _ _ _ _ h0
    · cases h0
  | astore n =>
    dsimp only [pm_sem] at h0
    split at h0
    · exact hk _ _ _ _ h0
    · cases h0
  | iinc n d =>
    dsimp only [pm_sem] at h0
    split at h0
    · exact hk _ _ _ _ h0
    · cases h0
  | iadd =>
    dsimp only [pm_sem] at h0
    split at h0
    · exact hk _ _ _ _ h0
    · cases h0
  | isub =>
    dsimp only [pm_sem] at h0
    split at h0
    · exact hk _ _ _ _ h0
    · cases h0
  | imul =>
    dsimp only [pm_sem] at h0
    split at h0
    · exact hk _ _ _ _ h0
    · cases h0
  | iand =>
    dsimp only [pm_sem] at h0
    split at h0
    · exact hk _ _ _ _ h0
    · cases h0
  | ior =>
    dsimp only [pm_sem] at h0
    split at h0
    · exact hk _ _ _ _ h0
    · cases h0
  | ixor =>
    dsimp only [pm_sem] at h0
    split at h0
    · exact hk _ _ _ _ h0
    · cases h0
  | ishl =>
    dsimp only [pm_sem] at h0
    split at h0
    · exact hk _ _ _ _ h0
    · cases h0
  | ishr =>
    dsimp only [pm_sem] at h0
    split at h0
    · exact hk _ _ _ _ h0
    · cases h0
  | ladd =>
    dsimp only [pm_sem] at h0
    split at h0
    · exact hk _ _ _ _ h0
    · cases h0
  | lsub =>
    dsimp only [pm_sem] at h0
    split at h0
    · exact hk _ _ _ _ h0
    · cases h0
  | lmul =>
    dsimp only [pm_sem] at h0
    split at h0
    · exact hk _ _ _ _ h0
    · cases h0
  | land =>
    dsimp only [pm_sem] at h0
    split at h0
    · exact hk _ _ _ _ h0
    · cases h0
  | lor =>
    dsimp only [pm_sem] at h0
    split at h0
    · exact hk _ _ _ _ h0
    · cases h0
  | lshl =>
    dsimp only [pm_sem] at h0
    split at h0
    · exact hk _ _ _ _ h0
    · cases h0
  | lshr =>
    dsimp only [pm_sem] at h0
    split at h0
    · exact hk _ _ _ _ h0
    · cases h0
  | lcmp =>
    dsimp only [pm_sem] at h0
    split at h0
    · exact hk _ _ _ _ h0
    · cases h0
  | ineg =>
    dsimp only [pm_sem] at h0
    split at h0
    · exact hk _ _ _ _ h0
    · cases h0
  | lneg =>
    dsimp only [pm_sem] at h0
    split at h0
    · exact hk _ _ _ _ h0
    · cases h0
  | i2l =>
    dsimp only [pm_sem] at h0
    split at h0
    · exact hk _ _ _ _ h0
    · cases h0
  | l2i =>
    dsimp only [pm_sem] at h0
    split at h0
    · exact hk _ _ _ _ h0
    · cases h0
  | i2c =>
    dsimp only [pm_sem] at h0
    split at h0
    · exact hk _ _ _ _ h0
    · cases h0
  | pop =>
    dsimp only [pm_sem] at h0
    split at h0
    · exact hk _ _ _ _ h0
    · cases h0
  | idiv =>
    dsimp only [pm_sem] at h0
    split at h0
    · (have q9 := hk _ _ _ _ (pm_go_n h0).2; exact q9)
    · cases h0
  | irem =>
    dsimp only [pm_sem] at h0
    split at h0
    · (have q9 := hk _ _ _ _ (pm_go_n h0).2; exact q9)
    · cases h0
  | ldiv =>
    dsimp only [pm_sem] at h0
    split at h0
    · (have q9 := hk _ _ _ _ (pm_go_n h0).2; exact q9)
    · cases h0
  | lrem =>
    dsimp only [pm_sem] at h0
    split at h0
    · (have q9 := hk _ _ _ _ (pm_go_n h0).2; exact q9)
    · cases h0
  | iaload =>
    dsimp only [pm_sem] at h0
    split at h0
    · (have q9 := hk _ _ _ _ (pm_go_n h0).2; exact q9)
    · cases h0
  | baload =>
    dsimp only [pm_sem] at h0
    split at h0
    · (have q9 := hk _ _ _ _ (pm_go_n h0).2; exact q9)
    · cases h0
  | laload =>
    dsimp only [pm_sem] at h0
    split at h0
    · (have q9 := hk _ _ _ _ (pm_go_n h0).2; exact q9)
    · cases h0
  | iastore =>
    dsimp only [pm_sem] at h0
    split at h0
    · (have q9 := hk _ _ _ _ (pm_go_n h0).2; exact q9)
    · cases h0
  | bastore =>
    dsimp only [pm_sem] at h0
    split at h0
    · (have q9 := hk _ _ _ _ (pm_go_n h0).2; exact q9)
    · cases h0
  | lastore =>
    dsimp only [pm_sem] at h0
    split at h0
    · (have q9 := hk _ _ _ _ (pm_go_n h0).2; exact q9)
    · cases h0
  | aastore =>
    dsimp only [pm_sem] at h0
    split at h0
    · (have q9 := hk _ _ _ _ (pm_go_n h0).2; exact q9)
    · cases h0
  | arraylength =>
    dsimp only [pm_sem] at h0
    split at h0
    · (have q9 := hk _ _ _ _ (pm_go_n h0).2; exact q9)
    · cases h0
  | checkcast n =>
    dsimp only [pm_sem] at h0
    split at h0
    · (have q9 := hk _ _ _ _ (pm_go_n h0).2; exact q9)
    · cases h0
  | dup =>
    dsimp only [pm_sem] at h0
    split at h0
    · exact hk _ _ _ _ h0
    · exact hk _ _ _ _ h0
    · cases h0
  | dup2 =>
    dsimp only [pm_sem] at h0
    split at h0
    · exact hk _ _ _ _ h0
    · exact hk _ _ _ _ h0
    · cases h0
  | ifCond cn off =>
    cases cn with
    | eq =>
      dsimp only [pm_sem] at h0
      split at h0
      · split at h0
        · exact hk _ _ _ _ h0
        · exact hk _ _ _ _ h0
      · cases h0
    | ne =>
      dsimp only [pm_sem] at h0
      split at h0
      · split at h0
        · exact hk _ _ _ _ h0
        · exact hk _ _ _ _ h0
      · cases h0
    | lt =>
      dsimp only [pm_sem] at h0
      split at h0
      · split at h0
        · exact hk _ _ _ _ h0
        · exact hk _ _ _ _ h0
      · cases h0
    | ge =>
      dsimp only [pm_sem] at h0
      split at h0
      · split at h0
        · exact hk _ _ _ _ h0
        · exact hk _ _ _ _ h0
      · cases h0
    | gt =>
      dsimp only [pm_sem] at h0
      split at h0
      · split at h0
        · exact hk _ _ _ _ h0
        · exact hk _ _ _ _ h0
      · cases h0
    | le =>
      dsimp only [pm_sem] at h0
      split at h0
      · split at h0
        · exact hk _ _ _ _ h0
        · exact hk _ _ _ _ h0
      · cases h0
  | if_icmp cn off =>
    cases cn with
    | eq =>
      dsimp only [pm_sem] at h0
      split at h0
      · split at h0
        · exact hk _ _ _ _ h0
        · exact hk _ _ _ _ h0
      · cases h0
    | ne =>
      dsimp only [pm_sem] at h0
      split at h0
      · split at h0
        · exact hk _ _ _ _ h0
        · exact hk _ _ _ _ h0
      · cases h0
    | lt =>
      dsimp only [pm_sem] at h0
      split at h0
      · split at h0
        · exact hk _ _ _ _ h0
        · exact hk _ _ _ _ h0
      · cases h0
    | ge =>
      dsimp only [pm_sem] at h0
      split at h0
      · split at h0
        · exact hk _ _ _ _ h0
        · exact hk _ _ _ _ h0
      · cases h0
    | gt =>
      dsimp only [pm_sem] at h0
      split at h0
      · split at h0
        · exact hk _ _ _ _ h0
        · exact hk _ _ _ _ h0
      · cases h0
    | le =>
      dsimp only [pm_sem] at h0
      split at h0
      · split at h0
        · exact hk _ _ _ _ h0
        · exact hk _ _ _ _ h0
      · cases h0
  | ifnull off =>
    dsimp only [pm_sem] at h0
    split at h0
    · (have q9 := hk _ _ _ _ (pm_go_n h0).2; exact q9)
    · exact hk _ _ _ _ h0
    · cases h0
  | ifnonnull off =>
    dsimp only [pm_sem] at h0
    split at h0
    · (have q9 := hk _ _ _ _ (pm_go_n h0).2; exact q9)
    · exact hk _ _ _ _ h0
    · cases h0
  | tableswitch d lo hi offs =>
    dsimp only [pm_sem] at h0
    split at h0
    · split at h0
      · exact hk _ _ _ _ h0
      · exact hk _ _ _ _ h0
    · cases h0
  | lookupswitch d ps =>
    dsimp only [pm_sem] at h0
    split at h0
    · obtain ⟨_, q9⟩ := pm_lks_any _ _ h0
      exact hk _ _ _ _ q9
    · cases h0
  | aaload =>
    dsimp only [pm_sem] at h0
    split at h0
    · obtain ⟨_, q9⟩ := pm_ldr_any (pm_go_n h0).2
      exact hk _ _ _ _ q9
    · cases h0
  | getfield n =>
    dsimp only [pm_sem] at h0
    split at h0
    · have h1 := (pm_go_n h0).2
      split at h1
      · exact hk _ _ _ _ h1
      · exact hk _ _ _ _ h1
      · exact hk _ _ _ _ h1
      · obtain ⟨_, q9⟩ := pm_ldr_any h1
        exact hk _ _ _ _ q9
    · cases h0
  | putfield n =>
    dsimp only [pm_sem] at h0
    split at h0
    · (have q9 := hk _ _ _ _ (pm_go_n h0).2; exact q9)
    · (have q9 := hk _ _ _ _ (pm_go_n h0).2; exact q9)
    · (have q9 := hk _ _ _ _ (pm_go_n h0).2; exact q9)
    · cases h0
  | new n =>
    have q9 := hk _ _ _ _ h0
    exact ⟨Nat.le_trans (Nat.le_succ _) q9.1, Nat.le_trans (Nat.le_add_right _ _) q9.2⟩
  | newarray n =>
    dsimp only [pm_sem] at h0
    split at h0
    · have q9 := hk _ _ _ _ (pm_go_n h0).2
      exact ⟨Nat.le_trans (Nat.le_succ _) q9.1, Nat.le_trans (Nat.le_add_right _ _) q9.2⟩
    · cases h0
  | anewarray n =>
    dsimp only [pm_sem] at h0
    split at h0
    · have q9 := hk _ _ _ _ (pm_go_n h0).2
      exact ⟨Nat.le_trans (Nat.le_succ _) q9.1, Nat.le_trans (Nat.le_add_right _ _) q9.2⟩
    · cases h0
  | invokestatic n =>
    dsimp only [pm_sem] at h0
    split at h0
    · split at h0
      · rcases pm_go_t (pm_go_n h0).2 with ⟨_, h1⟩ | ⟨_, h1⟩
        · (have q9 := hk _ _ _ _ h1; exact q9)
        · (have q9 := hk _ _ _ _ (pm_go_n h1).2; exact q9)
      · cases h0
    · have h1 := (pm_go_n h0).2
      split at h1
      next r h2 q8 =>
        have q9 := hk _ _ _ _ h1
        have q7 := hcl _ _ _ _ _ q8
        exact ⟨Nat.le_trans q7.1 q9.1, Nat.le_trans q7.2 q9.2⟩
      next => cases h1
  | invokespecial n =>
    dsimp only [pm_sem] at h0
    split at h0
    · split at h0
      · (have q9 := hk _ _ _ _ (pm_go_n h0).2; exact q9)
      · cases h0
    · have h1 := (pm_go_n h0).2
      split at h1
      next r h2 q8 =>
        have q9 := hk _ _ _ _ h1
        have q7 := hcl _ _ _ _ _ q8
        exact ⟨Nat.le_trans q7.1 q9.1, Nat.le_trans q7.2 q9.2⟩
      next => cases h1
  | invokevirtual n =>
    dsimp only [pm_sem] at h0
    split at h0
    · split at h0
      · have q9 := hk _ _ _ _ (pm_go_n h0).2
        exact ⟨Nat.le_trans (Nat.le_succ _) q9.1, Nat.le_trans (Nat.le_add_right _ _) q9.2⟩
      · cases h0
    · have h1 := (pm_go_n h0).2
      split at h1
      next r h2 q8 =>
        have q9 := hk _ _ _ _ h1
        have q7 := hcl _ _ _ _ _ q8
        exact ⟨Nat.le_trans q7.1 q9.1, Nat.le_trans q7.2 q9.2⟩
      next => cases h1
  | ireturn =>
    dsimp only [pm_sem] at h0
    split at h0
    · have h1 := (pm_go_n h0).2
      cases h1
      exact ⟨Nat.le_refl _, Nat.le_refl _⟩
    · cases h0
  | areturn =>
    dsimp only [pm_sem] at h0
    split at h0
    · have h1 := (pm_go_n h0).2
      cases h1
      exact ⟨Nat.le_refl _, Nat.le_refl _⟩
    · cases h0
  | lreturn =>
    dsimp only [pm_sem] at h0
    split at h0
    · cases h0
      exact ⟨Nat.le_refl _, Nat.le_refl _⟩
    · cases h0
  | return_ =>
    dsimp only [pm_sem] at h0
    split at h0
    · cases h0
      exact ⟨Nat.le_refl _, Nat.le_refl _⟩
    · cases h0
  | _ => exact absurd (show (none : pm_R) = some x from h0) (by intro z; cases z)
theorem pm_mono_run {code : Nat → pm_I} {call : Nat → Nat → List Value → pm_H → pm_R} (hcl : ∀ n y as h r h1, call n y as h = some (r, h1) → h.1.1 ≤ h1.1.1 ∧ h.1.2.1 ≤ h1.1.2.1) : ∀ (f i : Nat) (ls st : List Value) (h : pm_H) (x : Option Value × pm_H), pm_run code call f i ls st h = some x → pm_M h x := by
  intro f
  induction f with
  | zero => intro i ls st h x h0; cases h0
  | succ n ih => intro i ls st h x h0; exact pm_mono_step (fun i ls st h h1 => ih i ls st h x h1) (hcl n) h0
theorem pm_mono {P : pm_P} : ∀ (d f k i : Nat) (ls st : List Value) (h : pm_H) (x : Option Value × pm_H), pm_ev P d f k i ls st h = some x → pm_M h x := by
  intro d
  induction d with
  | zero => intro f k i ls st h x h0; exact pm_mono_run (fun n y as h r h1 q => by cases q) f i ls st h x h0
  | succ d ih => intro f k i ls st h x h0; exact pm_mono_run (fun n y as h r h1 q => ih _ _ _ _ _ _ _ (pm_go_n q).2) f i ls st h x h0
