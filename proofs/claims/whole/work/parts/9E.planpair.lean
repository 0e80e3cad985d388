/-! THE PLAN: the pair -/
theorem betL_cons {k : Nat} {a b : List Nat} (ha : dlL a k) (hb : dlL b k) (h : betL a b) : betL (k :: a) (k :: b) := by
  unfold betL at *
  rw [stL_add ha, stL_add hb]
  show a.length + 1 < b.length + 1 ∨ (a.length + 1 = b.length + 1 ∧ _)
  omega
theorem betL_tr {a b c : List Nat} (h : betL a b) (h2 : betL b c) : betL a c := by unfold betL at *; omega
theorem bV_ext {C C2 : List Nat → Prop} {c : List Nat} {x : Int32} (h : bV (fun l => C l ∨ l = c) x) (h1 : ∀ l, C l ∨ l = c → C2 l) (h2 : ∀ l, C2 l → C l ∨ betL c l) : bV C2 x := by
  rcases h with ⟨_, a2⟩ | ⟨r, a1, a2, a3⟩
  · exact absurd (Or.inr rfl) (a2 c)
  · refine Or.inr ⟨r, h1 r a1, a2, fun l hl => ?_⟩
    rcases h2 l hl with z | z
    · exact a3 l (Or.inl z)
    · exact betL_tr (a3 c (Or.inr rfl)) z
section
variable {d : Nat} {v : hV} {s s1 : hS} {R : Nat} {m : Int32}
def fPl (c _k : Nat) : Prop := c = 181
theorem sm_plan (hR : R ≤ 24) (hg : ∀ k, k < R → 0 ≤ gD s k ∧ gD s k ≤ 30) (hn : rI s 145 52 = nI R) (hm : 0 ≤ m.toInt ∧ m.toInt ≤ 99) {z3 : Value} {K : Int32 → hS → Prop} (hK : ∀ x s2, Fr fPl s s2 → bV (fun r => chL (pfx (gE s R)) (99 - m.toInt) (tD s) r R) x → K x s2) : pgI (d + 2) 237 10 [.ref 145, .int m, .int 0, z3] [] v s K := by
  have em : Int32.toInt (-1) = -1 := rfl
  have ge : ∀ k, 0 ≤ gE s R k ∧ gE s R k ≤ 30 := fun k => by
    unfold gE; split
    · exact hg k (by omega)
    · omega
  generalize hP : pfx (gE s R) = P at *
  generalize hq : 99 - m.toInt = q at *
  generalize htr : tD s = tr at *
  have GE : ∀ s1, Fr fPl s s1 → (∀ k, k < R → 0 ≤ gD s1 k ∧ gD s1 k ≤ 30) ∧ pfx (gE s1 R) = P := fun s1 hf => by
    have e : gD s1 = gD s := by funext k; unfold gD; rw [hf.i (by unfold fPl; omega)]
    exact ⟨fun k hk => by rw [e]; exact hg k hk, by rw [← hP]; unfold gE; rw [e]⟩
  have LA : ∀ (s1 : hS) (a b : Nat) (Kc : Int32 → hS → Prop), Fr fPl s s1 → a ≤ b → b ≤ R → (P b - P a ≤ q → Kc 1 s1) → (¬ (P b - P a ≤ q) → Kc 0 s1) → pcI (d + 1) 238 [.ref 145, .int (nI a), .int (nI b), .int m] v s1 Kc := fun s1 a b Kc hf hab hb h1 h0 => by
    obtain ⟨g1, g2⟩ := GE s1 hf
    refine sm_lasts hR g1 hm hab hb (fun z => h1 ?_) (fun z => h0 ?_)
    · rw [g2, hq] at z; exact z
    · rw [g2, hq] at z; exact z
  have MO : ∀ s1, Fr fPl s s1 → rI s1 145 52 = nI R := fun s1 hf => by rw [hf.i (by unfold fPl; omega)]; exact hn
  have p24 : ∀ {l n}, dlL l n → n ≤ 24 → stL l < 16777216 := fun hl hn => Nat.lt_of_lt_of_le (stL_lt (dlL_mo hl hn)) (by decide)
  -- the last choice
  have LAST : ∀ j i : Nat, i + j = R → ∀ (s1 : hS) (x2 : Int32), Fr fPl s s1 → (∀ k, k < R → bV (fun l => ∃ r, l = k :: r ∧ tr k ∧ chL P q tr r k) (rI s1 181 k)) → bV (fun r => chL P q tr r R ∧ (r = [] ∨ hdL r < i)) x2 → pgI (d + 2) 237 98 [.ref 145, .int m, .int x2, .int (nI i)] [] v s1 K := by
    intro j
    induction j with
    | zero =>
      intro i hi s1 x2 hf hc hx
      refine st_M_plan_98 ?_
      rw [MO s1 hf, nI_toInt (show i < 2147483648 by omega), nI_toInt (show R < 2147483648 by omega)]
      refine ⟨fun z => absurd z (by omega), fun _ => hK x2 s1 hf (bV_cg hx (fun r => ⟨fun z => z.1, fun z => ⟨z, ?_⟩⟩))⟩
      cases r with
      | nil => exact Or.inl rfl
      | cons k r => exact Or.inr (by have : k < R := z.2.2.1; show k < i; omega)
    | succ j ih =>
      intro i hi s1 x2 hf hc hx
      have q1 : nI i + 1 = nI (i + 1) := by rw [nI_1]
      have ci : bV (fun l => ∃ r, l = i :: r ∧ tr i ∧ chL P q tr r i) (rI s1 181 i) := hc i (by omega)
      have SKIP : (∀ r, chL P q tr (i :: r) R → False) → pgI (d + 2) 237 98 [.ref 145, .int m, .int x2, .int (nI (i + 1))] [] v s1 K := fun hno => ih (i + 1) (by omega) s1 x2 hf hc (bV_cg hx (fun r => ⟨fun z => ⟨z.1, by rcases z.2 with y | y; exact Or.inl y; exact Or.inr (by omega)⟩, fun z => ⟨z.1, by
        rcases z.2 with y | y
        · exact Or.inl y
        · cases r with
          | nil => exact Or.inl rfl
          | cons k r =>
            have y : k < i + 1 := y
            by_cases ck : k = i
            · subst ck; exact absurd z.1 (hno r)
            · exact Or.inr (show k < i by omega)⟩⟩))
      refine st_M_plan_98 ?_
      rw [MO s1 hf, nI_toInt (show i < 2147483648 by omega), nI_toInt (show R < 2147483648 by omega), Int.toNat_natCast, q1]
      refine ⟨fun _ => ⟨by omega, fun z => ?_, fun z => ?_⟩, fun z => absurd (by omega) z⟩
      · rcases ci with ⟨_, c2⟩ | ⟨l, ⟨r, hl, h1, h2⟩, c2, _⟩
        · exact SKIP (fun r hr => c2 (i :: r) ⟨r, rfl, hr.1.1, hr.1.2.2.2, hr.1.2.1, hr.1.2.2.1⟩)
        · rw [c2, nI_toInt (by have : stL l < 16777216 := p24 (n := i + 1) (by rw [hl]; exact ⟨Nat.lt_succ_self i, h2.2.2⟩) (by omega)
                               omega)] at z; omega
      · rcases ci with ⟨c1, _⟩ | ⟨l, ⟨r, hl, h1, h2⟩, c2, c3⟩
        · omega
        · have hdl : dlL l (i + 1) := by rw [hl]; exact ⟨Nat.lt_succ_self i, h2.2.2⟩
          refine LA s1 i R _ hf (by omega) (Nat.le_refl _) (fun z2 => ⟨fun y => absurd y (by decide), fun _ => ⟨by omega, ?_⟩⟩) (fun z2 => ⟨fun _ => SKIP (fun r hr => z2 hr.2.1), fun y => absurd rfl y⟩)
          have NX : ∀ x : Int32, bV (fun l2 => (chL P q tr l2 R ∧ (l2 = [] ∨ hdL l2 < i)) ∨ l2 = l) x → pgI (d + 2) 237 98 [.ref 145, .int m, .int x, .int (nI (i + 1))] [] v s1 K := fun x hx2 => by
            refine ih (i + 1) (by omega) s1 x hf hc (bV_ext hx2 (fun l2 h => ?_) (fun l2 h => ?_))
            · rcases h with h | h
              · exact ⟨h.1, by rcases h.2 with y | y; exact Or.inl y; exact Or.inr (by omega)⟩
              · rw [h, hl]; exact ⟨⟨⟨h1, h2.2.1, h2.2.2, h2.1⟩, z2, ⟨by omega, h2.2.2⟩⟩, Or.inr (Nat.lt_succ_self i)⟩
            · rcases h.2 with y | y
              · exact Or.inl ⟨h.1, Or.inl y⟩
              · cases l2 with
                | nil => exact Or.inl ⟨h.1, Or.inl rfl⟩
                | cons k r2 =>
                  have y : k < i + 1 := y
                  by_cases ck : k = i
                  · subst ck
                    exact Or.inr (c3 _ ⟨r2, rfl, h.1.1.1, h.1.1.2.2.2, h.1.1.2.1, h.1.1.2.2.1⟩)
                  · exact Or.inl ⟨h.1, Or.inr (show k < i by omega)⟩
          rw [c2]
          exact sm_isBetter (n := 24) (Nat.le_refl _) (dlL_mo hdl (by omega)) (fun r2 hr2 => dlL_mo hr2.1.2.2 hR) hx (fun hb => ⟨fun y => absurd y (by decide), fun _ => ⟨by omega, by rw [c2]; exact NX _ hb⟩⟩) (fun hb => ⟨fun _ => NX _ hb, fun y => absurd rfl y⟩)
  -- all months
  have ALL : ∀ j k : Nat, k + j = R → ∀ (s1 : hS) (z3 : Value), Fr fPl s s1 → (∀ i, i < k → bV (fun l => ∃ r, l = i :: r ∧ tr i ∧ chL P q tr r i) (rI s1 181 i)) → pgI (d + 2) 237 10 [.ref 145, .int m, .int (nI k), z3] [] v s1 K := by
    intro j
    induction j with
    | zero =>
      intro k hk s1 z3 hf hc
      have hk : k = R := by omega
      refine st_M_plan_10 ?_
      rw [MO s1 hf, nI_toInt (show k < 2147483648 by omega), nI_toInt (show R < 2147483648 by omega)]
      refine ⟨fun z => absurd z (by omega), fun _ => LA s1 0 R _ hf (Nat.zero_le _) (Nat.le_refl _) (fun z2 => ⟨fun y => absurd y (by decide), fun _ => ?_⟩) (fun z2 => ⟨fun _ => ?_, fun y => absurd rfl y⟩)⟩
      · refine LAST R 0 (by omega) s1 0 hf (fun i hi => hc i (by omega)) (Or.inr ⟨[], ⟨⟨trivial, z2, trivial⟩, Or.inl rfl⟩, rfl, fun r hr => ?_⟩)
        rcases hr.2 with y | y
        · rw [y]; exact Or.inr ⟨rfl, Nat.le_refl _⟩
        · exact absurd y (Nat.not_lt_zero _)
      · refine LAST R 0 (by omega) s1 (-1) hf (fun i hi => hc i (by omega)) (Or.inl ⟨rfl, fun r hr => ?_⟩)
        rcases hr.2 with y | y
        · rw [y] at hr; exact z2 hr.1.2.1
        · exact absurd y (Nat.not_lt_zero _)
    | succ j ih =>
      intro k hk s1 z3 hf hc
      have hkR : k < R := by omega
      have q1 : nI k + 1 = nI (k + 1) := by rw [nI_1]
      have ek : (nI k).toInt = k := nI_toInt (by omega)
      have htk : (rI s1 180 k).toInt = 0 ↔ ¬ tr k := by
        rw [hf.i (by unfold fPl; omega), ← htr]; unfold tD; exact Classical.not_not.symm
      -- one month: the choices for the one ahead
      have ONE : ∀ jj i : Nat, i + jj = k → tr k → ∀ (s2 : hS), Fr (fun c kk => c = 181 ∧ kk = k) s1 s2 → bV (fun l => ∃ r, l = k :: r ∧ chL P q tr r k ∧ (r = [] ∨ hdL r < i)) (rI s2 181 k) → pgI (d + 2) 237 41 [.ref 145, .int m, .int (nI k), .int (nI i)] [] v s2 K := by
        intro jj
        induction jj with
        | zero =>
          intro i hi htk s2 hf2 hx
          have hff := hf.tr (hf2.mo (W' := fPl) (fun c k z => z.1))
          refine st_M_plan_41 ?_
          rw [nI_toInt (show i < 2147483648 by omega), ek, q1]
          refine ⟨fun z => absurd z (by omega), fun _ => ih (k + 1) (by omega) s2 _ hff (fun i2 hi2 => ?_)⟩
          by_cases c : i2 = k
          · subst c
            refine bV_cg hx (fun l => ⟨fun ⟨r, h1, h2, _⟩ => ⟨r, h1, htk, h2⟩, fun ⟨r, h1, _, h2⟩ => ⟨r, h1, h2, ?_⟩⟩)
            cases r with
            | nil => exact Or.inl rfl
            | cons k2 r => exact Or.inr (by have : k2 < i2 := h2.2.2.1; show k2 < i; omega)
          · rw [hf2.i (by omega)]; exact hc i2 (by omega)
        | succ jj ihj =>
          intro i hi htk s2 hf2 hx
          have hff := hf.tr (hf2.mo (W' := fPl) (fun c k z => z.1))
          have q2 : nI i + 1 = nI (i + 1) := by rw [nI_1]
          have ei : rI s2 181 i = rI s1 181 i := hf2.i (by omega)
          have ci : bV (fun l => ∃ r, l = i :: r ∧ tr i ∧ chL P q tr r i) (rI s1 181 i) := hc i (by omega)
          have SKIP : (∀ r, chL P q tr (i :: r) k → False) → pgI (d + 2) 237 41 [.ref 145, .int m, .int (nI k), .int (nI (i + 1))] [] v s2 K := fun hno => ihj (i + 1) (by omega) htk s2 hf2 (bV_cg hx (fun l => ⟨fun ⟨r, h1, h2, h3⟩ => ⟨r, h1, h2, by rcases h3 with y | y; exact Or.inl y; exact Or.inr (by omega)⟩, fun ⟨r, h1, h2, h3⟩ => ⟨r, h1, h2, by
            rcases h3 with y | y
            · exact Or.inl y
            · cases r with
              | nil => exact Or.inl rfl
              | cons k2 r =>
                have y : k2 < i + 1 := y
                by_cases ck : k2 = i
                · subst ck; exact absurd h2 (hno r)
                · exact Or.inr (show k2 < i by omega)⟩⟩))
          refine st_M_plan_41 ?_
          rw [nI_toInt (show i < 2147483648 by omega), ek, Int.toNat_natCast, Int.toNat_natCast, q2, ei]
          refine ⟨fun _ => ⟨by omega, fun z => ?_, fun z => ?_⟩, fun z => absurd (by omega) z⟩
          · rcases ci with ⟨_, c2⟩ | ⟨l, ⟨r, hl, h1, h2⟩, c2, _⟩
            · exact SKIP (fun r hr => c2 (i :: r) ⟨r, rfl, hr.1.1, hr.1.2.2.2, hr.1.2.1, hr.1.2.2.1⟩)
            · rw [c2, nI_toInt (by have : stL l < 16777216 := p24 (n := i + 1) (by rw [hl]; exact ⟨Nat.lt_succ_self i, h2.2.2⟩) (by omega)
                                   omega)] at z; omega
          · rcases ci with ⟨c1, _⟩ | ⟨l, ⟨r, hl, h1, h2⟩, c2, c3⟩
            · omega
            · have hdl : dlL l (i + 1) := by rw [hl]; exact ⟨Nat.lt_succ_self i, h2.2.2⟩
              have hdk : dlL l k := dlL_mo hdl (by omega)
              have hsl := p24 hdk (by omega)
              refine LA s2 i k _ hff (by omega) (by omega) (fun z2 => ⟨fun y => absurd y (by decide), fun _ => ⟨by omega, by omega, ?_⟩⟩) (fun z2 => ⟨fun _ => SKIP (fun r hr => z2 hr.2.1), fun y => absurd rfl y⟩)
              have eor : rI s2 181 i ||| ((1 : Int32) <<< (nI k &&& 31)) = nI (stL (k :: l)) := by rw [ei, c2, b_or (by omega) (by omega)]; rfl
              have NXc : ∀ x : Int32, bV (fun l2 => (∃ r, l2 = k :: r ∧ chL P q tr r k ∧ (r = [] ∨ hdL r < i)) ∨ l2 = k :: l) x → bV (fun l2 => ∃ r, l2 = k :: r ∧ chL P q tr r k ∧ (r = [] ∨ hdL r < i + 1)) x := fun x hx2 => by
                refine bV_ext hx2 (fun l2 h => ?_) (fun l2 h => ?_)
                · rcases h with ⟨r0, e1, e2, e3⟩ | h
                  · exact ⟨r0, e1, e2, by rcases e3 with y | y; exact Or.inl y; exact Or.inr (by omega)⟩
                  · exact ⟨l, h, by rw [hl]; exact ⟨⟨h1, h2.2.1, h2.2.2, h2.1⟩, z2, ⟨by omega, h2.2.2⟩⟩, Or.inr (by rw [hl]; exact Nat.lt_succ_self i)⟩
                · obtain ⟨r0, e1, e2, e3⟩ := h
                  rcases e3 with y | y
                  · exact Or.inl ⟨r0, e1, e2, Or.inl y⟩
                  · cases r0 with
                    | nil => exact Or.inl ⟨[], e1, e2, Or.inl rfl⟩
                    | cons k2 r2 =>
                      have y : k2 < i + 1 := y
                      by_cases ck : k2 = i
                      · subst ck
                        rw [e1]
                        exact Or.inr (betL_cons hdk e2.2.2 (c3 _ ⟨r2, rfl, e2.1.1, e2.1.2.2.2, e2.1.2.1, e2.1.2.2.1⟩))
                      · exact Or.inl ⟨_, e1, e2, Or.inr (show k2 < i by omega)⟩
              rw [eor]
              refine sm_isBetter (n := 24) (r := k :: l) (Nat.le_refl _) ⟨by omega, hdk⟩ (fun r2 hr2 => ?_) hx (fun hb => ⟨fun y => absurd y (by decide), fun _ => ⟨by omega, by omega, ?_⟩⟩) (fun hb => ⟨fun _ => ihj (i + 1) (by omega) htk s2 hf2 (NXc _ hb), fun y => absurd rfl y⟩)
              · obtain ⟨r0, e1, e2, _⟩ := hr2
                rw [e1]; exact ⟨by omega, e2.2.2⟩
              · rw [eor]
                refine ihj (i + 1) (by omega) htk _ (hf2.sI ⟨rfl, rfl⟩) ?_
                rw [r_II, if_pos ⟨rfl, rfl⟩]; exact NXc _ hb
      have fs : ∀ w : Int32, Fr (fun c kk => c = 181 ∧ kk = k) s1 (sI s1 181 k w) := fun w => (Fr.rf _ s1).sI ⟨rfl, rfl⟩
      refine st_M_plan_10 ?_
      rw [MO s1 hf, ek, nI_toInt (show R < 2147483648 by omega), Int.toNat_natCast, htk, q1]
      refine ⟨fun _ => ⟨by omega, by omega, fun z => ?_, fun z => ?_⟩, fun z => absurd (by omega) z⟩
      · refine ih (k + 1) (by omega) _ _ (hf.tr ((fs (-1)).mo (fun c k z => z.1))) (fun i2 hi2 => ?_)
        by_cases c : i2 = k
        · subst c
          rw [r_II, if_pos ⟨rfl, rfl⟩]
          exact Or.inl ⟨rfl, fun l ⟨r, _, h, _⟩ => z h⟩
        · rw [(fs (-1)).i (by omega)]; exact hc i2 (by omega)
      · have z : tr k := Classical.not_not.mp z
        have f1 := hf.tr ((fs (-1)).mo (W' := fPl) (fun c k z => z.1))
        refine LA _ 0 k _ f1 (Nat.zero_le _) (by omega) (fun z2 => ⟨fun y => absurd y (by decide), fun _ => ⟨by omega, ?_⟩⟩) (fun z2 => ⟨fun _ => ⟨by omega, ?_⟩, fun y => absurd rfl y⟩)
        · refine ONE k 0 (by omega) z _ ((fs (-1)).sI ⟨rfl, rfl⟩) ?_
          rw [r_II, if_pos ⟨rfl, rfl⟩, b_sh (by omega)]
          refine Or.inr ⟨[k], ⟨[], rfl, ⟨trivial, z2, trivial⟩, Or.inl rfl⟩, by show nI (2 ^ k) = nI (0 ||| 2 ^ k); rw [Nat.zero_or], fun l ⟨r, h1, h2, h3⟩ => ?_⟩
          rcases h3 with y | y
          · rw [h1, y]; exact Or.inr ⟨rfl, Nat.le_refl _⟩
          · exact absurd y (Nat.not_lt_zero _)
        · refine ONE k 0 (by omega) z _ ((fs (-1)).sI ⟨rfl, rfl⟩) ?_
          rw [r_II, if_pos ⟨rfl, rfl⟩]
          refine Or.inl ⟨rfl, fun l ⟨r, h1, h2, h3⟩ => ?_⟩
          rcases h3 with y | y
          · rw [y] at h2; exact z2 h2.2.1
          · exact absurd y (Nat.not_lt_zero _)
  exact ALL R 0 (by omega) s _ (Fr.rf _ _) (fun i hi => absurd hi (Nat.not_lt_zero i))
/-- the class's: as late as can be -/
theorem sp_plan (hR : R ≤ 24) (hg : ∀ k, k < R → 0 ≤ gD s k ∧ gD s k ≤ 30) (hn : rI s 48 19 = nI R) (he : ∀ k, k < R → rI s 131 k = rI s 179 k ∧ rI s 132 k = rI s 180 k) (hm : 0 ≤ m.toInt ∧ m.toInt ≤ 99) {K : Int32 → hS → Prop} (hK : ∀ x, bV (fun r => chL (pfx (gE s R)) (99 - m.toInt) (tD s) r R) x → K x s) : pgI d 146 17 [.ref 48, .int m, .int 0, .int 99, .int (-1), .int 99, .int 0] [] v s K := by
  have em : Int32.toInt (-1) = -1 := rfl
  have e99 : Int32.toInt 99 = 99 := rfl
  have ge : ∀ k, 0 ≤ gE s R k ∧ gE s R k ≤ 30 := fun k => by
    unfold gE; split
    · exact hg k (by omega)
    · omega
  have mo := pfx_mo (fun k => (ge k).1)
  have hb2 := pfx_b (R := R) (g := gE s R) (fun k _ => ge k)
  have hst : ∀ i, i < R → pfx (gE s R) (i + 1) = pfx (gE s R) i + (rI s 131 i).toInt := fun i hi => by
    show pfx (gE s R) i + gE s R i = _
    have : (rI s 131 i).toInt = gD s i := by rw [show rI s 131 i = rI s 179 i from (he i hi).1]; rfl
    rw [this]; unfold gE; rw [if_pos hi]
  have hgb : ∀ i, i < R → 0 ≤ (rI s 131 i).toInt ∧ (rI s 131 i).toInt ≤ 30 := fun i hi => by
    rw [show rI s 131 i = rI s 179 i from (he i hi).1]; exact hg i hi
  have htr : ∀ i, i < R → ((rI s 132 i).toInt = 0 ↔ ¬ tD s i) := fun i hi => by
    rw [show rI s 132 i = rI s 180 i from (he i hi).2]; unfold tD; exact Classical.not_not.symm
  have p0 : pfx (gE s R) 0 = 0 := rfl
  generalize pfx (gE s R) = P at *
  generalize hq : 99 - m.toInt = q at *
  generalize tD s = tr at *
  have hn : rI s 48 19 = nI R := hn
  have G : ∀ j i : Nat, i + j = R → ∀ (gs : List Nat) (x3 x4 x5 : Int32) (t : Nat), grL P q tr R gs → chL P q tr gs i → (gs = [] ∨ tr (hdL gs)) → x3.toInt = 99 - (P i - P (hdL gs)) → ((x4.toInt = -1 ∧ (∀ k, k < i → ¬ tr k) ∧ x5.toInt = 99 - P i) ∨ (x4 = nI t ∧ t < i ∧ tr t ∧ (∀ k, k < i → tr k → k ≤ t) ∧ x5.toInt = 99 - (P i - P t))) → pgI d 146 17 [.ref 48, .int m, .int (nI (stL gs)), .int x3, .int x4, .int x5, .int (nI i)] [] v s K := by
    intro j
    induction j with
    | zero =>
      intro i hi gs x3 x4 x5 t hgr hch hh h3 h45
      have hi : i = R := by omega
      subst hi
      refine st_S_plan_17 ?_
      rw [hn, nI_toInt (show i < 2147483648 by omega)]
      exact ⟨fun z => absurd z (by omega), fun _ => hK _ (Or.inr ⟨gs, hch, rfl, fun r2 h2 => gr_best mo hgr hch.2.2 h2⟩)⟩
    | succ j ih =>
      intro i hi gs x3 x4 x5 t hgr hch hh h3 h45
      have hiR : i < R := by omega
      have q1 : nI i + 1 = nI (i + 1) := by rw [nI_1]
      have ei : (nI i).toInt = i := nI_toInt (by omega)
      have si := hst i hiR
      have gi := hgb i hiR
      have ti := htr i hiR
      have bi := hb2 i (by omega)
      have hdb : hdL gs ≤ i := by
        cases gs with
        | nil => exact Nat.zero_le _
        | cons k r => exact Nat.le_of_lt hch.2.2.1
      have bh := hb2 (hdL gs) (by omega)
      have mh := mo _ _ hdb
      have hsl : stL gs < 16777216 := Nat.lt_of_lt_of_le (stL_lt (dlL_mo hch.2.2 (show i ≤ 24 by omega))) (by decide)
      have e3 : (x3 - rI s 131 i).toInt = 99 - (P (i + 1) - P (hdL gs)) := by rw [i_sub (by omega), h3]; omega
      have hq1 := hch.2.1
      -- behind the tree's month: t is the latest
      have BODY : ∀ (x4 x5 : Int32) (t : Nat), ((x4.toInt = -1 ∧ (∀ k, k < i + 1 → ¬ tr k) ∧ x5.toInt = 99 - P i) ∨ (x4 = nI t ∧ t < i + 1 ∧ tr t ∧ (∀ k, k < i + 1 → tr k → k ≤ t) ∧ x5.toInt = 99 - (P i - P t))) → ((x3 - (rI s 131 i)).toInt < m.toInt → (x4.toInt = -1 → K (-1) s) ∧ (¬ x4.toInt = -1 → ((x5 - (rI s 131 i)).toInt < m.toInt → K (-1) s) ∧ (¬ (x5 - (rI s 131 i)).toInt < m.toInt → pgI d 146 17 [.ref 48, .int m, .int (nI (stL gs) ||| (1 <<< (x4 &&& 31))), .int (x5 - (rI s 131 i)), .int x4, .int (x5 - (rI s 131 i)), .int (nI (i + 1))] [] v s K))) ∧ (¬ (x3 - (rI s 131 i)).toInt < m.toInt → pgI d 146 17 [.ref 48, .int m, .int (nI (stL gs)), .int (x3 - (rI s 131 i)), .int x4, .int (x5 - (rI s 131 i)), .int (nI (i + 1))] [] v s K) := by
        intro x4 x5 t h45
        have hP0 := mo 0 i (Nat.zero_le _)
        have bt : x4.toInt ≠ -1 → 0 ≤ P t ∧ P t ≤ P i := fun z => by
          rcases h45 with ⟨a, _⟩ | ⟨_, a, _⟩
          · exact absurd a z
          · have := hb2 t (by omega); exact ⟨this.1, mo t i (by omega)⟩
        have b5 : -1000 ≤ x5.toInt ∧ x5.toInt ≤ 99 := by
          rcases h45 with ⟨_, _, a⟩ | ⟨a1, a2, _, _, a⟩
          · omega
          · have := bt (by rw [a1, nI_toInt (by omega)]; omega); omega
        have e5 : (x5 - rI s 131 i).toInt = x5.toInt - (rI s 131 i).toInt := i_sub (by omega)
        have NEXT5 : (x4.toInt = -1 ∧ (∀ k, k < i + 1 → ¬ tr k) ∧ (x5 - rI s 131 i).toInt = 99 - P (i + 1)) ∨ (x4 = nI t ∧ t < i + 1 ∧ tr t ∧ (∀ k, k < i + 1 → tr k → k ≤ t) ∧ (x5 - rI s 131 i).toInt = 99 - (P (i + 1) - P t)) := by
          rcases h45 with ⟨a1, a2, a3⟩ | ⟨a1, a2, a3, a4, a5⟩
          · exact Or.inl ⟨a1, a2, by rw [e5, a3, si]; omega⟩
          · exact Or.inr ⟨a1, a2, a3, a4, by rw [e5, a5, si]; omega⟩
        rw [e3]
        refine ⟨fun z => ?_, fun z => ih (i + 1) (by omega) gs _ x4 _ t hgr ⟨hch.1, by omega, dlL_mo hch.2.2 (by omega)⟩ hh e3 NEXT5⟩
        have NONE : (∀ x, (x = 0 ∨ tr x) → x ≤ i → P (i + 1) - P x ≤ q → x ≠ 0 → False) → bV (fun r => chL P q tr r R) (-1) := fun hno => Or.inl ⟨rfl, fun r hr => by
          obtain ⟨x, x1, x2, x3⟩ := ch_at mo (i := i) hr (by omega)
          by_cases c : x = 0
          · subst c
            have := mo 0 (hdL gs) (Nat.zero_le _); omega
          · exact hno x x1 x2 x3 c⟩
        rcases NEXT5 with ⟨a1, a2, a3⟩ | ⟨a1, a2, a3, a4, a5⟩
        · exact ⟨fun _ => hK _ (NONE (fun x x1 x2 x3 x4 => by rcases x1 with y | y; exact x4 y; exact a2 x (by omega) y)), fun z2 => absurd a1 z2⟩
        · have it : (nI t).toInt = t := nI_toInt (by omega)
          refine ⟨fun z2 => absurd z2 (by rw [a1, it]; omega), fun _ => ?_⟩
          rw [a5]
          refine ⟨fun z3 => hK _ (NONE (fun x x1 x2 x3 x4 => ?_)), fun z3 => ?_⟩
          · rcases x1 with y | y
            · exact x4 y
            · have := mo x t (a4 x (by omega) y); omega
          · have htb : hdL gs < t := by
              refine Nat.lt_of_not_le (fun y => ?_)
              have := mo t (hdL gs) y; omega
            have mt := mo t i (by omega)
            have e6 : nI (stL gs) ||| ((1 : Int32) <<< (x4 &&& 31)) = nI (stL (t :: gs)) := by rw [a1, b_or (by omega) (by omega)]; rfl
            rw [e6]
            have dt : dlL gs t := by
              cases gs with
              | nil => trivial
              | cons k r => exact ⟨htb, hch.2.2.2⟩
            refine ih (i + 1) (by omega) (t :: gs) _ x4 _ t ⟨fun k hk htk hpk => ?_, ?_, hgr⟩ ⟨⟨a3, by omega, dt, hch.1⟩, by show P (i + 1) - P t ≤ q; omega, ⟨a2, dt⟩⟩ (Or.inr a3) ?_ (Or.inr ⟨a1, a2, a3, a4, a5⟩)
            · refine a4 k (Nat.lt_of_not_le (fun y => ?_)) htk
              have := mo (i + 1) k y; omega
            · have := mo (i + 1) R (by omega); omega
            · rw [a5]; rfl
      refine st_S_plan_17 ?_
      rw [hn, ei, nI_toInt (show R < 2147483648 by omega), Int.toNat_natCast, ti, q1]
      refine ⟨fun _ => ⟨by omega, fun z => ⟨by omega, by omega, BODY x4 x5 t ?_⟩, fun z => ⟨by omega, by omega, ?_⟩⟩, fun z => absurd (by omega) z⟩
      · rcases h45 with ⟨a1, a2, a3⟩ | ⟨a1, a2, a3, a4, a5⟩
        · exact Or.inl ⟨a1, fun k hk => by
            by_cases c : k = i
            · rw [c]; exact z
            · exact a2 k (by omega), a3⟩
        · exact Or.inr ⟨a1, by omega, a3, fun k hk hk2 => by
            by_cases c : k = i
            · rw [c] at hk2; exact absurd hk2 z
            · exact a4 k (by omega) hk2, a5⟩
      · have z : tr i := Classical.not_not.mp z
        have B := BODY (nI i) 99 i (Or.inr ⟨rfl, by omega, z, fun k hk _ => by omega, by rw [e99]; omega⟩)
        rw [ei] at B
        exact B
  refine G R 0 (by omega) [] 99 (-1) 99 0 trivial ⟨trivial, by show P 0 - P 0 ≤ q; omega, trivial⟩ (Or.inl rfl) (by show (99 : Int) = 99 - (P 0 - P 0); omega) (Or.inl ⟨rfl, fun k hk => absurd hk (Nat.not_lt_zero k), by rw [e99, p0]; rfl⟩)
theorem th_plan (h : pD s) (x : Int32) : prI fDr v (d + 2) 146 237 [.int x] s pD := by
  have hs := h
  obtain ⟨R, h1, h2, h3, h4⟩ := h
  have el0 : Int64.toInt 0 = 0 := rfl
  have el99 : Int64.toInt 99 = 99 := rfl
  have hg : ∀ k, k < R → 0 ≤ gD s k ∧ gD s k ≤ 30 := fun k hk => ((h4 k hk).1).2
  have O : ¬ (0 ≤ x.toInt ∧ x.toInt ≤ 99) → (Fr fDr s s ∧ pcI (d + 2) 237 [.ref 145, .int x] v s (fun x2 s2 => x2 = -1000000002 ∧ Fr fDr s s2 ∧ pD s2)) := fun hx => ⟨Fr.rf _ _, st_M_plan (sp_in (fun _ => ⟨rfl, Fr.rf _ _, hs⟩) (fun z => absurd z hx))⟩
  refine st_S_plan ⟨fun c => O (by omega), fun c => ⟨fun c2 => O (by omega), fun c2 => ?_⟩⟩
  have hm : 0 ≤ x.toInt ∧ x.toInt ≤ 99 := by omega
  refine sp_plan h1 hg h2 (fun k hk => ⟨((h4 k hk).1).1, (h4 k hk).2.1⟩) hm (fun y hy => ⟨Fr.rf _ _, st_M_plan (sp_in (fun z => absurd (by rw [el0, el99]; exact hm) z) (fun _ => sm_plan h1 hg h3 hm (fun y2 s2 f2 hy2 => ⟨bV_un hy2 hy, f2.mo (fun c k z => by unfold fPl at z; unfold fDr; omega), R, h1, ?_, ?_, fun k hk => ?_⟩)))⟩)
  · rw [f2.i (by unfold fPl; omega)]; exact h2
  · rw [f2.i (by unfold fPl; omega)]; exact h3
  · rw [f2.i (by unfold fPl; omega), f2.i (by unfold fPl; omega), f2.i (by unfold fPl; omega), f2.i (by unfold fPl; omega)]; exact h4 k hk
end
