/-! LEAST TIME: the class's answer is the least -/
section
variable {d : Nat} {v : hV} {s s1 : hS} {N : Nat} {m a : Nat → Int} {af : Nat → Nat}
theorem smS_b30 (ok : okT2 N m a af) : ∀ n, n ≤ N → 0 ≤ smS m n ∧ smS m n ≤ 30 * n := by
  intro n
  induction n with
  | zero => intro _; exact ⟨Int.le_refl _, Int.le_refl _⟩
  | succ n ih =>
    intro hn
    have := ih (by omega)
    have := ok.2 n (by omega)
    show 0 ≤ smS m n + m n ∧ smS m n + m n ≤ _
    omega
theorem smS_inc (ok : okT2 N m a af) {i : Nat} : ∀ n, n ≤ N → i < n → smS m i + m i ≤ smS m n := by
  intro n
  induction n with
  | zero => intro _ h; omega
  | succ n ih =>
    intro hn hi
    show _ ≤ smS m n + m n
    have := ok.2 n (by omega)
    by_cases c : i = n
    · rw [c]; exact Int.le_refl _
    · have := ih (by omega) (by omega); omega
/-- one after another -/
theorem seq_fea (ok : okT2 N m a af) : fea N m a af (smS m) ∧ mkz N m (smS m) (smS m N) := by
  refine ⟨⟨fun k hk => (smS_b30 ok k (by omega)).1, fun k hk j hj hb => ?_, fun t => ?_⟩, (smS_b30 ok N (Nat.le_refl _)).1, fun k hk => smS_inc ok N (Nat.le_refl _) hk⟩
  · have mk := ok.2 k hk
    have hjk : j < k := Nat.lt_of_not_le (fun z => by
      rw [Nat.testBit_lt_two_pow (Nat.lt_of_lt_of_le mk.2.2.2 (Nat.pow_le_pow_right (by decide) z))] at hb; exact absurd hb (by decide))
    exact smS_inc ok k (by omega) hjk
  · have : ∀ n, n ≤ N → smS (bzA m a (smS m) t) n ≤ if t < smS m n then 2 else 0 := by
      intro n
      induction n with
      | zero => intro _; show (0 : Int) ≤ _; split <;> omega
      | succ n ih =>
        intro hn
        have h1 := ih (by omega)
        have h2 := ok.2 n (by omega)
        have e : smS m (n + 1) = smS m n + m n := rfl
        have e2 : smS (bzA m a (smS m) t) (n + 1) = smS (bzA m a (smS m) t) n + bzA m a (smS m) t n := rfl
        rw [e, e2]
        unfold bzA at *
        by_cases c : t < smS m n
        · rw [if_pos c] at h1
          rw [if_neg (by omega), if_pos (by omega)]; omega
        · rw [if_neg c] at h1
          by_cases c2 : t < smS m n + m n
          · rw [if_pos ⟨by omega, c2⟩, if_pos c2]; omega
          · rw [if_neg (by omega), if_neg c2]; omega
    have := this N (Nat.le_refl _)
    unfold bzy
    split at this <;> omega
theorem bzS_0 {b : Nat → Int} {t : Int} : bzS N m a b 0 t = 0 := by
  unfold bzS
  rw [smS_cg (g := fun _ => 0) N (fun k _ => by show (if (0 : Nat).testBit k = true then bzA m a b t k else 0) = 0; rw [Nat.zero_testBit, if_neg (by decide)])]
  have z : ∀ n, smS (fun _ => 0) n = 0 := by
    intro n
    induction n with
    | zero => rfl
    | succ n ih => show smS (fun _ => 0) n + 0 = 0; rw [ih]; rfl
  exact z N
theorem wkS_0 : wkS N m a 0 = smS (fun k => m k * a k) N := smS_cg N (fun k _ => by
  show (if (0 : Nat).testBit k = true then 0 else m k * a k) = m k * a k
  rw [Nat.zero_testBit, if_neg (by decide)])
theorem b0n {i : Nat} : ¬ (0 : Nat).testBit i = true := by rw [Nat.zero_testBit]; decide
theorem sp_fewest (ok : okT2 N m a af) (hC : cAc N m a af s) {K : Int32 → hS → Prop} (hK : ∀ (w : Int32) (s2 : hS), optS N m a af w.toInt → Fr (fun c k => c = 116 ∨ (c = 112 ∧ k = 5)) s s2 → K w s2) : pcI (d + 11) 116 [.ref 112] v s K := by
  have hN := ok.1
  have hpw := pw8 hN
  have G : ∀ j i : Nat, i + j = N → ∀ x1 x2 : Int32, x1.toInt = smS m i → x2.toInt = smS (fun k => m k * a k) i → 0 ≤ smS (fun k => m k * a k) i ∧ smS (fun k => m k * a k) i ≤ 60 * i → pgI (d + 11) 116 6 [.ref 112, .int x1, .int x2, .int (nI i)] [] v s K := by
    intro j
    induction j with
    | zero =>
      intro i hi x1 x2 h1 h2 hb
      have hi : i = N := by omega
      subst hi
      refine st_Acts_fewestMinutes_6 ?_
      rw [hC.1]
      refine ⟨fun z => absurd z (by omega), fun _ => ?_⟩
      have FS : Fr (fun c k => c = 112 ∧ k = 5) s (sI s 112 5 x1) := (Fr.rf _ s).sI ⟨rfl, rfl⟩
      have PU := sp_putUp (d := d + (8 - i)) (v := v) ok i 0 0 0 0 0 (sI s 112 5 x1) 0 0 0 x2 (cAc_fr hC FS (by omega) (fun k => by omega)) hpw.1 cntS_0 (by omega) rfl rfl rfl (by rw [wkS_0]; exact h2) (Int.le_refl _) (Int.le_refl _) (Int.le_refl _) (fun q _ hq => absurd hq b0n) (fun s2 => K (rI s2 112 5) s2) (fun s2 hp => ?_)
      · rw [show d + (8 - i) + i + 2 = d + 10 by omega] at PU
        exact PU
      · obtain ⟨p1, p2, p3, p4⟩ := hp
        have e5 : rI (sI s 112 5 x1) 112 5 = x1 := by rw [r_II, if_pos ⟨rfl, rfl⟩]
        rw [e5] at p3
        refine hK _ s2 ⟨?_, fun b z2 hb hz => ?_⟩ ((FS.mo (fun c k z => Or.inr z)).tr (p1.mo (fun c k z => by unfold fPu at z; omega)))
        · rcases p3 with p3 | p3
          · rw [p3, h1]; exact ⟨smS m, seq_fea ok⟩
          · have := chR_fea ok i 0 0 0 0 _ _ p3 hpw.1 (by rw [cntS_0]; omega) (fun q _ hq => absurd hq b0n) (fun q _ hq => absurd hq b0n) (fun t => by rw [bzS_0]; decide) ⟨fun t _ => by rw [bzS_0]; decide, fun t _ => by rw [bzS_0]; exact Int.le_refl _⟩ (Int.le_refl _) (Int.le_refl _)
            exact this.1
        · obtain ⟨b2, hb2⟩ := smin_ex hb hz
          obtain ⟨hf, f1, f2⟩ := chR_ex ok hb2 i 0 0 0 0 (eAc (sI s 112 5 x1)) hpw.1 (by rw [cntS_0]; omega) (fun q _ hq => absurd hq b0n) (fun k hk _ => hb2.1.1 k hk) ⟨fun t _ => by rw [bzS_0]; decide, fun t _ => by rw [bzS_0]; exact Int.le_refl _⟩ (fun t ht => ⟨fun z => by omega, fun z => by omega⟩) hz.1 (Int.le_refl _)
          have := p2 hf f2
          omega
    | succ j ih =>
      intro i hi x1 x2 h1 h2 hb
      have q1 : nI i + 1 = nI (i + 1) := by rw [nI_1]
      obtain ⟨c1, c2, c3⟩ := hC.2 i (by omega)
      have hm := ma_b ok (k := i) (by omega)
      have hsb := smS_b30 ok i (by omega)
      have mi := ok.2 i (by omega)
      have ea : smS (fun k => m k * a k) (i + 1) = smS (fun k => m k * a k) i + m i * a i := rfl
      have eb : smS m (i + 1) = smS m i + m i := rfl
      have emul : (rI s 113 i * rI s 114 i).toInt = m i * a i := by rw [i_mul (by rw [c1, c2]; omega), c1, c2]
      refine st_Acts_fewestMinutes_6 ?_
      rw [hC.1, nI_toInt (show i < 2147483648 by omega), nI_toInt (show N < 2147483648 by omega), Int.toNat_natCast, q1]
      refine ⟨fun _ => ⟨by omega, by omega, by omega, ih (i + 1) (by omega) _ _ ?_ ?_ (by rw [ea]; omega)⟩, fun z => absurd (by omega) z⟩
      · rw [i_add (by omega), h1, c1, eb]
      · rw [i_add (by rw [emul]; omega), h2, emul, ea]
  exact st_Acts_fewestMinutes (G N 0 (by omega) 0 0 rfl rfl (by show (0 : Int) ≤ 0 ∧ (0 : Int) ≤ 60 * ((0 : Nat) : Int); omega))
end
