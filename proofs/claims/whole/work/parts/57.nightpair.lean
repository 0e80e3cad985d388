/-! TEXTS: night(), the pair -/
def pN (v : hV) (s : hS) : Prop := ∃ L : List nRow, nrOK L ∧ dN (vN v) s L ∧ eN 0 s L ∧ rI s 145 16 = nI L.length
def fNc (v : hV) (c k : Nat) : Prop := fN (vM v) c k ∨ (c = 49 ∧ 1 ≤ k)
section
variable {d : Nat} {v : hV} {s s1 : hS} {B : Nat → Int} {N : Nat}
theorem dN_fr {n : Nat} {L : List nRow} {W : Nat → Nat → Prop} (h : dN n s L) (hf : Fr W s s1) (hw : ∀ c k, fN n c k → ¬ W c k) : dN n s1 L := by
  obtain ⟨h1, h2, h3⟩ := h
  refine ⟨by rw [hf.i (hw _ _ ⟨Nat.le_refl _, by omega⟩)]; exact h1, h2, fun k hk => ?_⟩
  rw [hf.i (hw _ _ ⟨by omega, by omega⟩), hf.i (hw _ _ ⟨by omega, by omega⟩), hf.i (hw _ _ ⟨by omega, by omega⟩), hf.i (hw _ _ ⟨by omega, by omega⟩)]
  exact h3 k hk
theorem sp_Snight (hv : kV v) (h : tX s B N) {Q : Option Value → pm_H → Prop} (her : ∀ e w, pNight B N 300 [] 0 = .error (e, w) → ∀ (x : Int32) s2, x.toInt = -10 - e → Fr (fNc v) s s2 → rI s2 49 1 = 0 → rI s2 49 4 = nI w → Q (some (.int x)) (hh v s2)) (hok : ∀ L, pNight B N 300 [] 0 = .ok L → ∀ s2, Fr (fNc v) s s2 → dN (vM v) s2 L → rI s2 49 1 = 0 → rI s2 49 4 = -1 → Q (some (.int (nI L.length))) (hh (swN v) s2)) : pc (d + 7) 47 [.ref 48] (hh v s) Q := by
  have hk : 81 ≤ vM v ∧ vM v ≤ 86 := by have := hv.2.2.1; unfold kN at this; omega
  have X : ∀ sb s2, Fr (fN (vM v)) s sb → cN2 (pNight B N 300 [] 0) sb s2 (vM v) → pg (d + 7) 47 5 [.ref 48, .null] [] (hh v s2) Q := by
    intro sb s2 hf hc
    cases e : pNight B N 300 [] 0 with
    | error y =>
      obtain ⟨f, w⟩ := y
      rw [e] at hc
      obtain ⟨f1, f2, f3, a, rfl⟩ := hc
      have ef : rI (sI (sI (tS sb a (nI f) (nI w)) 49 1 0) 49 2 0) 49 3 = nI f := by
        rw [r_II, if_neg (by decide), r_II, if_neg (by decide), tS_r]; rfl
      have hf2 : Fr (fNc v) s (sI (sI (tS sb a (nI f) (nI w)) 49 1 0) 49 2 0) := ((tS_fr (hf.mo (W' := fNc v) (fun c k z => Or.inl z)) (fun k hk => Or.inr ⟨rfl, hk⟩)).sI (Or.inr ⟨rfl, by decide⟩)).sI (Or.inr ⟨rfl, by decide⟩)
      generalize hs2 : sI (sI (tS sb a (nI f) (nI w)) 49 1 0) 49 2 0 = s2 at ef hf2 ⊢
      refine pg_if (n := 4) (i2 := 15) (i3 := 9) (ls2 := [.ref 48, .null]) (ls3 := [.ref 48, .null]) (st2 := []) (st3 := []) (h2 := hh v s2) (h3 := hh v s2) (c := rI s2 49 3 = 0) (fun _ _ => rfl) (fun c => ?_) (fun c => ?_)
      · rw [ef] at c
        have : (nI f).toInt = 0 := by rw [c]; rfl
        rw [nI_toInt (by omega)] at this; omega
      · refine pg_ret (n := 6) (r := some (.int (-10 - rI s2 49 3))) (h1 := hh v s2) (fun _ _ => rfl) (her f w e _ s2 ?_ hf2 ?_ ?_)
        · rw [ef]
          have e10 : Int32.toInt (-10) = -10 := rfl
          have : (nI f).toInt = f := nI_toInt (by omega)
          rw [i_sub, e10, this]
          rw [e10, this]; omega
        · rw [← hs2, r_II, if_neg (by decide), r_II, if_pos ⟨rfl, rfl⟩]
        · rw [← hs2, r_II, if_neg (by decide), r_II, if_neg (by decide), tS_r, if_pos ⟨rfl, rfl⟩]
    | ok L =>
      rw [e] at hc
      obtain ⟨hd, a, rfl⟩ := hc
      have ef : rI (sI (sI (tS sb a 0 (-1)) 49 1 0) 49 2 0) 49 3 = 0 := by
        rw [r_II, if_neg (by decide), r_II, if_neg (by decide), tS_r]; rfl
      have hf2 : Fr (fNc v) s (sI (sI (tS sb a 0 (-1)) 49 1 0) 49 2 0) := ((tS_fr (hf.mo (W' := fNc v) (fun c k z => Or.inl z)) (fun k hk => Or.inr ⟨rfl, hk⟩)).sI (Or.inr ⟨rfl, by decide⟩)).sI (Or.inr ⟨rfl, by decide⟩)
      have em : rI (sI (sI (tS sb a 0 (-1)) 49 1 0) 49 2 0) 49 1 = 0 := by
        rw [r_II, if_neg (by decide), r_II, if_pos ⟨rfl, rfl⟩]
      have ep : rI (sI (sI (tS sb a 0 (-1)) 49 1 0) 49 2 0) 49 4 = -1 := by
        rw [r_II, if_neg (by decide), r_II, if_neg (by decide), tS_r, if_pos ⟨rfl, rfl⟩]
      have hd2 : dN (vM v) (sI (sI (tS sb a 0 (-1)) 49 1 0) 49 2 0) L := dN_fr hd (W := fun c _ => c = 49) (((tS_fr (W := fun c _ => c = 49) (Fr.rf _ _) (fun _ _ => rfl)).sI rfl).sI rfl) (fun c k z z2 => by unfold fN at z; omega)
      generalize hs2 : sI (sI (tS sb a 0 (-1)) 49 1 0) 49 2 0 = s2 at ef hf2 em ep hd2 ⊢
      refine pg_if (n := 4) (i2 := 15) (i3 := 9) (ls2 := [.ref 48, .null]) (ls3 := [.ref 48, .null]) (st2 := []) (st3 := []) (h2 := hh v s2) (h3 := hh v s2) (c := rI s2 49 3 = 0) (fun _ _ => rfl) (fun _ => ?_) (fun c => absurd ef c)
      have hans := hok L e s2 hf2 hd2 em ep
      rw [← hd2.1] at hans
      have sw := sw_night hv s2
      have Y : pg (d + 7) 47 25 [.ref 48, .ref (vN v)] [] (hh (swN v) s2) Q := by
        clear sw
        obtain ⟨l0, t1, t2, n, m⟩ := v
        obtain ⟨-, h4, h5, h6⟩ := hv
        have h5 : m = 81 ∨ m = 86 := h5
        rcases h5 with rfl | rfl
        · exact pg_ret (n := 4) (r := some (.int (rI s2 81 4))) (h1 := hh (l0, t1, t2, 81, n) s2) (fun _ _ => rfl) hans
        · exact pg_ret (n := 4) (r := some (.int (rI s2 86 4))) (h1 := hh (l0, t1, t2, 86, n) s2) (fun _ _ => rfl) hans
      rw [← sw] at Y
      obtain ⟨l0, t, u, n1, n2⟩ := v
      obtain ⟨-, h1, h2, h3⟩ := hv
      have h1 : n1 = 81 ∨ n1 = 86 := h1
      have h2 : n2 = 81 ∨ n2 = 86 := h2
      have h3 : n1 ≠ n2 := h3
      rcases h1 with rfl | rfl <;> rcases h2 with rfl | rfl
      · exact absurd rfl h3
      · exact pg_st (n := 10) (fun _ _ => rfl) Y
      · exact pg_st (n := 10) (fun _ _ => rfl) Y
      · exact absurd rfl h3
  have hR : pcV (d + 6) 48 [.ref (vM v), .ref 49] v s (fun s2 => pg (d + 7) 47 5 [.ref 48, .null] [] (hh v s2) Q) := sp_nightRead h hv.2.2.1 (fun sb s2 hf hc => X sb s2 hf hc)
  refine ⟨Nat.le_of_ble_eq_true rfl, ?_⟩
  obtain ⟨l0, t, u, n1, n2⟩ := v
  obtain ⟨-, h1, h2, h3⟩ := hv
  have h2 : n2 = 81 ∨ n2 = 86 := h2
  rcases h2 with rfl | rfl
  · exact pg_call (n := 5) (i2 := 5) (y := 48) (ls2 := [.ref 48, .null]) (rest := []) (as := [.ref 81, .ref 49]) (h2 := hh (l0, t, u, n1, 81) s) (fun _ _ => rfl) (pcV_k hR (fun s2 z => z))
  · exact pg_call (n := 5) (i2 := 5) (y := 48) (ls2 := [.ref 48, .null]) (rest := []) (as := [.ref 86, .ref 49]) (h2 := hh (l0, t, u, n1, 86) s) (fun _ _ => rfl) (pcV_k hR (fun s2 z => z))
theorem th_night (hv : kV v) (hx : pX s) : pc (d + 7) 47 [.ref 48] (hh v s) (fun r h1 => ∃ x v1 s1, r = some (.int x) ∧ h1 = hh v1 s1 ∧ vL v1 = vL v ∧ (∀ k, rI s1 0 k = rI s 0 k) ∧ pcI (d + 7) 170 [.ref 145] v1 s1 (fun x2 s2 => x2 = x ∧ pX s2 ∧ ((v1 = v ∧ Fr (fun c k => fNc v c k ∨ fNe c k) s s2) ∨ (v1 = swN v ∧ Fr (fun c k => fNc v c k ∨ fNm c k) s s2 ∧ pN v1 s2)))) := by
  obtain ⟨B, N, h1, h2, h3⟩ := pX_tX hx
  have hk : 81 ≤ vM v ∧ vM v ≤ 86 := by have := hv.2.2.1; unfold kN at this; omega
  have hC : ∀ c k, fNc v c k → 49 ≤ c ∧ c ≤ 90 ∧ c ≠ 50 := fun c k z => by unfold fNc fN at z; omega
  have hM : ∀ c k, fNm c k → 145 ≤ c := fun c k z => by unfold fNm at z; omega
  have hMe : ∀ c k, fNe c k → 145 ≤ c := fun c k z => by unfold fNe fNd at z; omega
  refine sp_Snight (d := d) hv h1 (fun e w he x s1 hxv hf hm hp => ?_) (fun L he s1 hf hd hm hp => ?_)
  · refine ⟨x, v, s1, rfl, rfl, rfl, fun k => hf.i (fun z => by have := hC _ _ z; omega), ?_⟩
    have h2' : tM s1 B N := tM_fr h2 hf (fun z => by have := hC _ _ z; omega) (fun k z => by have := hC _ _ z; omega)
    refine sm_night (d := d + 3) h2' (fun e2 w2 he2 f1 f2 f3 x2 s2 hx2 hf2 ht2 hp2 => ?_) (fun L he2 => by rw [he] at he2; cases he2)
    rw [he] at he2
    injection he2 with he2
    injection he2 with ea eb
    subst ea; subst eb
    have hff : Fr (fun c k => fNc v c k ∨ fNe c k) s s2 := (hf.mo (fun c k z => Or.inl z)).tr (hf2.mo (fun c k z => Or.inr z))
    refine ⟨i_inj (by rw [hx2, hxv]), ?_, Or.inl ⟨rfl, hff⟩⟩
    refine pX_empty (pRo_fr h1.1 hff (fun c k hc z => ?_)) ?_ ht2 ?_
    · rcases z with z | z
      · have := hC _ _ z; omega
      · have := hMe _ _ z; omega
    · rw [hf2.i (fun z => by have := hMe _ _ z; omega)]; exact hm
    · rw [hf2.i (fun z => by have := hMe _ _ z; omega), hp, hp2]
  · refine ⟨_, swN v, s1, rfl, rfl, rfl, fun k => hf.i (fun z => by have := hC _ _ z; omega), ?_⟩
    have h2' : tM s1 B N := tM_fr h2 hf (fun z => by have := hC _ _ z; omega) (fun k z => by have := hC _ _ z; omega)
    refine sm_night (d := d + 3) h2' (fun e2 w2 he2 => by rw [he] at he2; cases he2) (fun L2 he2 s2 hf2 m1 m2 m3 m4 => ?_)
    rw [he] at he2
    injection he2 with ea
    subst ea
    have hff : Fr (fun c k => fNc v c k ∨ fNm c k) s s2 := (hf.mo (fun c k z => Or.inl z)).tr (hf2.mo (fun c k z => Or.inr z))
    have lo : ∀ c k, c < 145 → rI s2 c k = rI s1 c k := fun c k hc => hf2.i (fun z => by have := hM _ _ z; omega)
    refine ⟨rfl, ?_, Or.inr ⟨rfl, hff, ⟨L, pNight_ok 300 [] 0 L ⟨by decide, fun x hx => by cases hx⟩ he, ?_, m1, m2⟩⟩⟩
    · refine pX_empty (pRo_fr h1.1 hff (fun c k hc z => ?_)) ?_ m3 ?_
      · rcases z with z | z
        · have := hC _ _ z; omega
        · have := hM _ _ z; omega
      · rw [lo _ _ (by decide)]; exact hm
      · rw [lo _ _ (by decide), hp, m4]
    · exact dN_fr (n := vM v) hd hf2 (fun c k z z2 => by have := hM _ _ z2; unfold fN at z; omega)
end
