/-! calls -/
theorem pf_cw : ∀ y, 1 ≤ y → y < pd_nM → Cond.code (pd_mm y).1 (pd_mm y).2.1 (pd_mm y).2.2.1 (pd_mm y).2.2.2.1 ∈ lw_tbl := fun y h1 h2 => match y, h1, h2 with
  | 0, h1, _ => absurd h1 (by decide)
  | 1, _, _ => pf_c_1
  | 2, _, _ => pf_c_2
  | 3, _, _ => pf_c_3
  | 4, _, _ => pf_c_4
  | 5, _, _ => pf_c_5
  | 6, _, _ => pf_c_6
  | 7, _, _ => pf_c_7
  | 8, _, _ => pf_c_8
  | 9, _, _ => pf_c_9
  | 10, _, _ => pf_c_10
  | 11, _, _ => pf_c_11
  | 12, _, _ => pf_c_12
  | 13, _, _ => pf_c_13
  | 14, _, _ => pf_c_14
  | 15, _, _ => pf_c_15
  | 16, _, _ => pf_c_16
  | 17, _, _ => pf_c_17
  | 18, _, _ => pf_c_18
  | 19, _, _ => pf_c_19
  | 20, _, _ => pf_c_20
  | 21, _, _ => pf_c_21
  | 22, _, _ => pf_c_22
  | 23, _, _ => pf_c_23
  | 24, _, _ => pf_c_24
  | 25, _, _ => pf_c_25
  | 26, _, _ => pf_c_26
  | 27, _, _ => pf_c_27
  | 28, _, _ => pf_c_28
  | 29, _, _ => pf_c_29
  | 30, _, _ => pf_c_30
  | 31, _, _ => pf_c_31
  | 32, _, _ => pf_c_32
  | 33, _, _ => pf_c_33
  | 34, _, _ => pf_c_34
  | 35, _, _ => pf_c_35
  | 36, _, _ => pf_c_36
  | 37, _, _ => pf_c_37
  | 38, _, _ => pf_c_38
  | 39, _, _ => pf_c_39
  | 40, _, _ => pf_c_40
  | 41, _, _ => pf_c_41
  | 42, _, _ => pf_c_42
  | 43, _, _ => pf_c_43
  | 44, _, _ => pf_c_44
  | 45, _, _ => pf_c_45
  | 46, _, _ => pf_c_46
  | 47, _, _ => pf_c_47
  | 48, _, _ => pf_c_48
  | 49, _, _ => pf_c_49
  | 50, _, _ => pf_c_50
  | 51, _, _ => pf_c_51
  | 52, _, _ => pf_c_52
  | 53, _, _ => pf_c_53
  | 54, _, _ => pf_c_54
  | 55, _, _ => pf_c_55
  | 56, _, _ => pf_c_56
  | 57, _, _ => pf_c_57
  | 58, _, _ => pf_c_58
  | 59, _, _ => pf_c_59
  | 60, _, _ => pf_c_60
  | 61, _, _ => pf_c_61
  | 62, _, _ => pf_c_62
  | 63, _, _ => pf_c_63
  | 64, _, _ => pf_c_64
  | 65, _, _ => pf_c_65
  | 66, _, _ => pf_c_66
  | 67, _, _ => pf_c_67
  | 68, _, _ => pf_c_68
  | 69, _, _ => pf_c_69
  | 70, _, _ => pf_c_70
  | 71, _, _ => pf_c_71
  | 72, _, _ => pf_c_72
  | 73, _, _ => pf_c_73
  | 74, _, _ => pf_c_74
  | 75, _, _ => pf_c_75
  | 76, _, _ => pf_c_76
  | 77, _, _ => pf_c_77
  | 78, _, _ => pf_c_78
  | 79, _, _ => pf_c_79
  | 80, _, _ => pf_c_80
  | 81, _, _ => pf_c_81
  | 82, _, _ => pf_c_82
  | 83, _, _ => pf_c_83
  | 84, _, _ => pf_c_84
  | 85, _, _ => pf_c_85
  | 86, _, _ => pf_c_86
  | 87, _, _ => pf_c_87
  | 88, _, _ => pf_c_88
  | 89, _, _ => pf_c_89
  | 90, _, _ => pf_c_90
  | 91, _, _ => pf_c_91
  | 92, _, _ => pf_c_92
  | 93, _, _ => pf_c_93
  | 94, _, _ => pf_c_94
  | 95, _, _ => pf_c_95
  | 96, _, _ => pf_c_96
  | 97, _, _ => pf_c_97
  | 98, _, _ => pf_c_98
  | 99, _, _ => pf_c_99
  | 100, _, _ => pf_c_100
  | 101, _, _ => pf_c_101
  | 102, _, _ => pf_c_102
  | 103, _, _ => pf_c_103
  | 104, _, _ => pf_c_104
  | 105, _, _ => pf_c_105
  | 106, _, _ => pf_c_106
  | 107, _, _ => pf_c_107
  | 108, _, _ => pf_c_108
  | 109, _, _ => pf_c_109
  | 110, _, _ => pf_c_110
  | 111, _, _ => pf_c_111
  | 112, _, _ => pf_c_112
  | 113, _, _ => pf_c_113
  | 114, _, _ => pf_c_114
  | 115, _, _ => pf_c_115
  | 116, _, _ => pf_c_116
  | 117, _, _ => pf_c_117
  | 118, _, _ => pf_c_118
  | 119, _, _ => pf_c_119
  | 120, _, _ => pf_c_120
  | 121, _, _ => pf_c_121
  | 122, _, _ => pf_c_122
  | 123, _, _ => pf_c_123
  | 124, _, _ => pf_c_124
  | 125, _, _ => pf_c_125
  | 126, _, _ => pf_c_126
  | 127, _, _ => pf_c_127
  | 128, _, _ => pf_c_128
  | 129, _, _ => pf_c_129
  | 130, _, _ => pf_c_130
  | 131, _, _ => pf_c_131
  | 132, _, _ => pf_c_132
  | 133, _, _ => pf_c_133
  | 134, _, _ => pf_c_134
  | 135, _, _ => pf_c_135
  | 136, _, _ => pf_c_136
  | 137, _, _ => pf_c_137
  | 138, _, _ => pf_c_138
  | 139, _, _ => pf_c_139
  | 140, _, _ => pf_c_140
  | 141, _, _ => pf_c_141
  | 142, _, _ => pf_c_142
  | 143, _, _ => pf_c_143
  | 144, _, _ => pf_c_144
  | 145, _, _ => pf_c_145
  | 146, _, _ => pf_c_146
  | 147, _, _ => pf_c_147
  | 148, _, _ => pf_c_148
  | 149, _, _ => pf_c_149
  | 150, _, _ => pf_c_150
  | 151, _, _ => pf_c_151
  | 152, _, _ => pf_c_152
  | 153, _, _ => pf_c_153
  | 154, _, _ => pf_c_154
  | 155, _, _ => pf_c_155
  | 156, _, _ => pf_c_156
  | 157, _, _ => pf_c_157
  | 158, _, _ => pf_c_158
  | 159, _, _ => pf_c_159
  | 160, _, _ => pf_c_160
  | 161, _, _ => pf_c_161
  | 162, _, _ => pf_c_162
  | 163, _, _ => pf_c_163
  | 164, _, _ => pf_c_164
  | 165, _, _ => pf_c_165
  | 166, _, _ => pf_c_166
  | 167, _, _ => pf_c_167
  | 168, _, _ => pf_c_168
  | 169, _, _ => pf_c_169
  | 170, _, _ => pf_c_170
  | 171, _, _ => pf_c_171
  | 172, _, _ => pf_c_172
  | 173, _, _ => pf_c_173
  | 174, _, _ => pf_c_174
  | 175, _, _ => pf_c_175
  | 176, _, _ => pf_c_176
  | 177, _, _ => pf_c_177
  | 178, _, _ => pf_c_178
  | 179, _, _ => pf_c_179
  | 180, _, _ => pf_c_180
  | 181, _, _ => pf_c_181
  | 182, _, _ => pf_c_182
  | 183, _, _ => pf_c_183
  | 184, _, _ => pf_c_184
  | 185, _, _ => pf_c_185
  | 186, _, _ => pf_c_186
  | 187, _, _ => pf_c_187
  | 188, _, _ => pf_c_188
  | 189, _, _ => pf_c_189
  | 190, _, _ => pf_c_190
  | 191, _, _ => pf_c_191
  | 192, _, _ => pf_c_192
  | 193, _, _ => pf_c_193
  | 194, _, _ => pf_c_194
  | 195, _, _ => pf_c_195
  | 196, _, _ => pf_c_196
  | 197, _, _ => pf_c_197
  | 198, _, _ => pf_c_198
  | 199, _, _ => pf_c_199
  | 200, _, _ => pf_c_200
  | 201, _, _ => pf_c_201
  | 202, _, _ => pf_c_202
  | 203, _, _ => pf_c_203
  | 204, _, _ => pf_c_204
  | 205, _, _ => pf_c_205
  | 206, _, _ => pf_c_206
  | 207, _, _ => pf_c_207
  | 208, _, _ => pf_c_208
  | 209, _, _ => pf_c_209
  | 210, _, _ => pf_c_210
  | 211, _, _ => pf_c_211
  | 212, _, _ => pf_c_212
  | 213, _, _ => pf_c_213
  | 214, _, _ => pf_c_214
  | 215, _, _ => pf_c_215
  | 216, _, _ => pf_c_216
  | 217, _, _ => pf_c_217
  | 218, _, _ => pf_c_218
  | 219, _, _ => pf_c_219
  | 220, _, _ => pf_c_220
  | 221, _, _ => pf_c_221
  | 222, _, _ => pf_c_222
  | 223, _, _ => pf_c_223
  | 224, _, _ => pf_c_224
  | 225, _, _ => pf_c_225
  | 226, _, _ => pf_c_226
  | 227, _, _ => pf_c_227
  | 228, _, _ => pf_c_228
  | 229, _, _ => pf_c_229
  | 230, _, _ => pf_c_230
  | 231, _, _ => pf_c_231
  | 232, _, _ => pf_c_232
  | 233, _, _ => pf_c_233
  | 234, _, _ => pf_c_234
  | 235, _, _ => pf_c_235
  | 236, _, _ => pf_c_236
  | 237, _, _ => pf_c_237
  | 238, _, _ => pf_c_238
  | 239, _, _ => pf_c_239
  | 240, _, _ => pf_c_240
  | 241, _, _ => pf_c_241
  | 242, _, _ => pf_c_242
  | 243, _, _ => pf_c_243
  | y + 244, _, h2 => absurd h2 (by show ¬ (y + 244 < 244); omega)
noncomputable def pf_vls (y : Nat) : List Cond := pm_at [] [pd_v_0, pd_v_1, pd_v_2, pd_v_3, pd_v_4, pd_v_5, pd_v_6] (y / 40)
theorem pf_vls_in (y : Nat) : ∀ w ∈ pf_vls y, w ∈ lw_tbl := by
  intro w hw
  unfold pf_vls at hw
  rcases pf_at ([] : List Cond) [pd_v_0, pd_v_1, pd_v_2, pd_v_3, pd_v_4, pd_v_5, pd_v_6] (y / 40) with h | h
  · simp only [List.mem_cons, List.not_mem_nil, or_false] at h
    rcases h with h | h | h | h | h | h | h
    · rw [h] at hw; exact pf_v_0 w hw
    · rw [h] at hw; exact pf_v_1 w hw
    · rw [h] at hw; exact pf_v_2 w hw
    · rw [h] at hw; exact pf_v_3 w hw
    · rw [h] at hw; exact pf_v_4 w hw
    · rw [h] at hw; exact pf_v_5 w hw
    · rw [h] at hw; exact pf_v_6 w hw
  · rw [h] at hw; cases hw
noncomputable def pf_mck (y : Nat) : Bool := (if (pd_mm y).2.2.2.2 then decide (Cond.static (pd_mm y).1 ∈ pf_vls y) else decide (Cond.instanceMethod (pd_mm y).1 ∈ pf_vls y) && (decide ((pd_mm y).1.name = "<init>") || decide (Cond.selects (pd_mm y).1.cls (pd_mm y).1 (pd_mm y).1 ∈ pf_vls y))) && (decide (Cond.initialized (pd_mm y).1.cls ∈ pd_in) && (plainFor (pd_mm y).1 && (decide ((pd_mm y).1.cls ≠ "java/lang/invoke/MethodHandle" ∧ (pd_mm y).1.cls ≠ "java/lang/invoke/VarHandle") && Nat.ble (pd_mm y).2.2.1 30)))
theorem pf_mck_all : ((List.range pd_nM).all fun y => Nat.beq y 0 || pf_mck y) = true := by decide +kernel
theorem pf_mck_of {y : Nat} (h1 : 1 ≤ y) (h2 : y < pd_nM) : pf_mck y = true := by
  have h := List.all_eq_true.mp pf_mck_all y (List.mem_range.mpr h2)
  rw [Bool.or_eq_true] at h
  rcases h with h | h
  · have := Nat.eq_of_beq_eq_true h; omega
  · exact h
/-- a method of the claim that may be called -/
theorem pf_meth {y : Nat} (h1 : 1 ≤ y) (h2 : y < pd_nM) : ((pd_mm y).2.2.2.2 = true → Cond.static (pd_mm y).1 ∈ lw_tbl) ∧ ((pd_mm y).2.2.2.2 = false → Cond.instanceMethod (pd_mm y).1 ∈ lw_tbl ∧ (¬ (pd_mm y).1.name = "<init>" → Cond.selects (pd_mm y).1.cls (pd_mm y).1 (pd_mm y).1 ∈ lw_tbl)) ∧ Cond.initialized (pd_mm y).1.cls ∈ lw_tbl ∧ plainFor (pd_mm y).1 = true ∧ ((pd_mm y).1.cls ≠ "java/lang/invoke/MethodHandle" ∧ (pd_mm y).1.cls ≠ "java/lang/invoke/VarHandle") ∧ (pd_mm y).2.2.1 ≤ 30 := by
  have h := pf_mck_of h1 h2
  unfold pf_mck at h
  simp only [Bool.and_eq_true, decide_eq_true_eq] at h
  obtain ⟨a1, a2, a3, a4, a5⟩ := h
  refine ⟨fun hf => ?_, fun hf => ?_, pf_in _ a2, a3, a4, Nat.le_of_ble_eq_true a5⟩
  · rw [if_pos hf] at a1
    exact pf_vls_in y _ (of_decide_eq_true a1)
  · rw [if_neg (by rw [hf]; decide)] at a1
    simp only [Bool.and_eq_true, Bool.or_eq_true, decide_eq_true_eq] at a1
    exact ⟨pf_vls_in y _ a1.1, fun hn => pf_vls_in y _ (a1.2.resolve_left hn)⟩
noncomputable def ps_mw (y : Nat) : List Cond := Cond.code (pd_mm y).1 (pd_mm y).2.1 (pd_mm y).2.2.1 (pd_mm y).2.2.2.1 :: pf_ws
theorem ps_mw_good {y : Nat} (h1 : 1 ≤ y) (h2 : y < pd_nM) : GoodIn pf_ws (ps_mw y) := by
  intro w hw
  have hm : w ∈ pf_ws := by
    rcases List.mem_cons.mp hw with rfl | h
    · exact pf_good (pf_cw y h1 h2) rfl
    · exact h
  exact ⟨hm, good_of_word (List.mem_filter.mp hm).2⟩
def ps_Pc (X : ps_X) (as : List Value) (h : pm_H) : Array Value → State → Prop := fun v U => v = (as.map (ps_v X)).toArray ∧ ps_Env X U U.heap ∧ ps_W X h U.heap ∧ U.heap.size = X.1 + (h.1.1 - pm_NR)
def ps_Qc (X : ps_X) (r : Option Value) (h1 : pm_H) : Array Value → State → Outcome → State → Prop := fun _ st o t => o = .returned (r.map (ps_v X)) ∧ ps_W X h1 t.heap ∧ st.heap.size ≤ t.heap.size ∧ ∀ q : Nat, q < st.heap.size → ¬ ps_A X q → t.heap[q]? = st.heap[q]?
/-- what is wanted of the calls that a frame makes -/
def ps_call (l : Launch) (R : Room) (X : ps_X) (call : Nat → List Value → pm_H → pm_R) : Prop := ∀ (y : Nat) (as : List Value) (h : pm_H) (r : Option Value) (h1 : pm_H), call y as h = some (r, h1) → 1 ≤ y → y < pd_nM → (h.1.1 ≤ h1.1.1 ∧ h.1.2.1 ≤ h1.1.2.1) ∧ ∃ rm : Room, rm.cells = h1.1.1 - h.1.1 ∧ rm.slots = h1.1.2.1 - h.1.2.1 ∧ rm.frames + 1 ≤ R.frames ∧ 8 + ((pd_mm y).2.2.1 + 11) + rm.locals ≤ R.locals ∧ Met l (pd_mm y).1 (ps_mw y) rm (ps_Pc X as h) (ps_Qc X r h1) (h1.1.1 - h.1.1) (h1.1.2.1 - h.1.2.1) (ps_A X)
section
variable {p : Program} {l : Launch} {e : Env} {R : Room} {s : State} {m : MethodId} {args : Array Value} {below : List Frame} {meth : Method} {c : Code} {Q : State → Prop} {X : ps_X} {k cE sE : Nat} {x : Option Value × pm_H} {kk : pm_K} {call : Nat → List Value → pm_H → pm_R} {a b cc : Nat} {v : Value} {tg : List Nat} {i : Nat} {ls st : List Value} {h : pm_H}
theorem ps_ran {H : Heap} {locs : List Loc} {lsM : Array Slot} {cells slots mc ms pc : Nat} {st0 rest : List Value} {r : Option Value} {h1 : pm_H} {as : Array Value} (hs : va_S (ps_A X) s.heap H locs) (hr : va_Run p l e R s m args below meth c H locs cells slots mc ms (F0 m pc lsM st0) rest (ps_Qc X r h1 as) (ps_A X))
    (K : ∀ (H1 : Heap) (locs1 : List Loc), ps_W X h1 H1 → va_S (ps_A X) s.heap H1 locs1 → W p l e R s m args below meth c H1 locs1 (cells + mc) (slots + ms) Q (F0 m (pc + 3) lsM ((r.map (ps_v X)).toList ++ rest))) : W p l e R s m args below meth c H locs cells slots Q (F0 m pc lsM st0) := by
  intro T hT Xs
  obtain ⟨v, st1, t, T1, L, e1, Xs1, hL, e2, e3, hq, go⟩ := hr T hT Xs
  obtain ⟨q1, q2, q3, q4⟩ := hq
  cases Outcome.returned.inj q1
  rw [e1] at q3 q4
  obtain ⟨t1, r1, r2⟩ := K T1.heap (locs ++ L) (by rw [e2]; exact q2) ⟨Nat.le_trans hs.1 (by rw [e2]; exact q3), fun q a1 a2 => by rw [e2]; exact (q4 q (Nat.lt_of_lt_of_le a1 hs.1) a2).trans (hs.2.1 q a1 a2), fun q hq => (List.mem_append.mp hq).elim (hs.2.2 q) (hL q)⟩ T1 rfl Xs1
  exact ⟨t1, go _ r1, r2⟩
theorem ps_sizeEq {H : Heap} {cells : Nat} {locs : List Loc} (hz0 : X.1 ≤ s.heap.size) (hz : s.heap.size + cE = X.1 + (x.2.1.1 - pm_NR)) (hm : h.1.1 ≤ x.2.1.1) (q1 : cells + (x.2.1.1 - h.1.1) = cE) (hw : ps_W X h H) (hs : va_S (ps_A X) s.heap H locs) (hb : H.size ≤ s.heap.size + cells) : H.size = X.1 + (h.1.1 - pm_NR) := by
  have hn := hw.1
  apply Nat.le_antisymm
  · omega
  · by_cases h0 : h.1.1 = pm_NR
    · have := hs.1; omega
    · have hq := ps_ws_at (X := X) (h := h) (i := h.1.1 - 1) (by omega) (by omega)
      have := (hw.2.2.1 _ _ hq).lt
      rw [show (ps_ad X (h.1.1 - 1), ps_E X h (h.1.1 - 1)).1 = ps_ad X (h.1.1 - 1) from rfl, ps_ad_own (by omega)] at this
      omega
theorem ps_retst (r : Option Value) (rest : List Value) : (pm_ret r rest).map (ps_v X) = (r.map (ps_v X)).toList ++ rest.map (ps_v X) := by
  cases r <;> rfl
theorem ps_blind {as : List Value} {h : pm_H} : FrameBlind (ps_Pc X as h) := fun a U g mk hq => ⟨hq.1, hq.2.1.blind, hq.2.2.1, hq.2.2.2⟩
theorem ps_pre {H : Heap} {locs : List Loc} {as : List Value} (hE : ps_Env X s s.heap) (hs : va_S (ps_A X) s.heap H locs) (hw : ps_W X h H) (hsz : H.size = X.1 + (h.1.1 - pm_NR)) : ∀ U : State, U.heap = H → s.WarmedH U.vm → ps_Pc X as h (as.map (ps_v X)).toArray U := fun U hU hW => ⟨rfl, hE.next hs hU hW, by rw [hU]; exact hw, by rw [hU]; exact hsz⟩
theorem ps_invokestatic {n : Nat} (h8 : cc ≠ 8) (hcl : ps_call l R X call) (hC : cE ≤ R.cells ∧ sE ≤ R.slots) (hz : s.heap.size + cE = X.1 + (x.2.1.1 - pm_NR)) (hF : ps_F p s m args meth c k X) (hk : ∀ i ls st h, kk i ls st h = some x → ps_G p l e R s m args below meth c Q X k cE sE x i ls st h) (hok : pf_ok (pd_mm k) (pd_pcs k) (pd_pc k i) (pd_pc k (i + 1)) (.invokestatic n, a, b, cc, v, tg) = true) (h0 : pm_sem (.invokestatic n) a b cc v tg i kk call ls st h = some x) : ps_G p l e R s m args below meth c Q X k cE sE x i ls st h := by
  obtain ⟨hx, hb, hml, hown, hret, hnm, hts, hE, hz0, -⟩ := hF
  obtain ⟨hd, hn, hc⟩ := ps_ok (by intro q; cases q) hok
  have hnv := hE.2.2.2.2.2.2.2.1
  have hc : (Nat.ble (a + 1) pd_nM && (Nat.ble 1 a && ((pd_mm a).2.2.2.2 && (pf_eqm (pd_pw (pm_at 0 tg 1)) (pd_mm k).1.cls n (pd_mm a).1 cc && decide (pf_narg (pd_mm a).1.desc = some b))))) = true := by
    dsimp only [pf_chk] at hc
    split at hc
    · exact absurd rfl h8
    · exact hc
  simp only [Bool.and_eq_true, decide_eq_true_eq] at hc
  obtain ⟨c1, c2, c3, c4, c5⟩ := hc
  have ha2 : a < pd_nM := Nat.le_of_ble_eq_true c1
  have ha1 : 1 ≤ a := Nat.le_of_ble_eq_true c2
  obtain ⟨f1, -, f3, f4, f5, f6⟩ := pf_meth ha1 ha2
  replace h0 : pm_go (Nat.ble (pm_cat (st.drop b)) 8 && Nat.beq (st.take b).length b) (match call a (st.take b).reverse h with
      | some (r, h') => kk (i + 1) ls (pm_ret r (st.drop b)) h'
      | none => none) none = some x := by
    dsimp only [pm_sem] at h0
    split at h0
    · exact absurd rfl h8
    · exact h0
  obtain ⟨g, h0⟩ := pm_go_n h0
  rw [Bool.and_eq_true] at g
  have hcat : pm_cat (st.drop b) ≤ 8 := Nat.le_of_ble_eq_true g.1
  have hlen : (st.take b).length = b := Nat.eq_of_beq_eq_true g.2
  split at h0
  next r h1 hcall =>
    obtain ⟨⟨m1, m2⟩, rm, r1, r2, r3, r4, hM⟩ := hcl a _ h r h1 hcall ha1 ha2
    obtain ⟨⟨g1, g2⟩, gW⟩ := hk _ _ _ _ h0
    refine ⟨⟨Nat.le_trans m1 g1, Nat.le_trans m2 g2⟩, fun H locs lsM cells slots q1 q2 hw hl hs => ?_⟩
    have K := fun H1 locs1 hw1 hs1 => gW H1 locs1 lsM (cells + (h1.1.1 - h.1.1)) (slots + (h1.1.2.1 - h.1.2.1)) (by omega) (by omega) hw1 hl hs1
    rw [hn] at K
    refine W.size (fun hbd => ?_)
    have hsz := ps_sizeEq hz0 hz (Nat.le_trans m1 g1) q1 hw hs hbd
    obtain ⟨lv, hl1, -⟩ := hl
    have hW8 : 2 * (F0 m (pd_pc k i) lsM ((st.drop b).map (ps_v X))).monitorRoom + (((st.drop b).map (ps_v X)).map fun v => v.category).sum ≤ 8 := by
      show 2 * 0 + _ ≤ 8
      rw [pm_cat_e hnv]
      omega
    have hst : (F0 m (pd_pc k i) lsM (st.map (ps_v X))).stack = ((st.take b).reverse.map (ps_v X)).reverse ++ (st.drop b).map (ps_v X) := by
      show st.map (ps_v X) = _
      rw [List.map_reverse, List.reverse_reverse, ← List.map_append, List.take_append_drop]
    have hdd : (pd_mm a).1.cls ≠ "java/lang/invoke/MethodHandle" ∧ (pd_mm a).1.cls ≠ "java/lang/invoke/VarHandle" ∧ (parseMethodDescriptor (pd_mm a).1.desc).map (fun d => d.parameters.length) = some b := ⟨f5.1, f5.2, c5⟩
    have hal : ((st.take b).reverse.map (ps_v X)).length = b := by rw [List.length_map, List.length_reverse, hlen]
    refine ps_ran (as := ((st.take b).reverse.map (ps_v X)).toArray) hs ?_ (fun H1 locs1 hw1 hs1 => by rw [← ps_retst]; exact K H1 locs1 hw1 hs1)
    cases cc with
    | zero =>
      have ew := of_decide_eq_true c4
      exact va_runS ⟨hx, hb, hml, hown, hts⟩ hM ⟨callB_of b hts (ps_mw_good ha1 ha2) rfl r1 r2 (hts _ (pf_good f3 rfl)) (hts _ (pf_good (pf_pw_in ew (fun z => by cases z)) rfl)) hdd ⟨r3, r4⟩, hts _ (pf_good (f1 c3) rfl)⟩ ⟨ps_blind, ps_pre hE hs hw hsz⟩ rfl hal hl1.1 hst hW8 hd ⟨by omega, by omega⟩
    | succ cc =>
      have ew := of_decide_eq_true c4
      exact va_runSN (host := "SkinTent") ⟨hx, hb, hml, hown, hts⟩ hM ⟨va_cnB b hts (ps_mw_good ha1 ha2) rfl r1 r2 (hE.2.2.2.2.2.1 _ (pf_pw_in ew (fun z => by cases z)) rfl) (hts _ (pf_good f3 rfl)) hdd ⟨r3, r4⟩, hts _ (pf_good (f1 c3) rfl), trivial⟩ ⟨ps_blind, ps_pre hE hs hw hsz⟩ rfl hal hl1.1 hst hW8 hd ⟨by omega, by omega⟩
  next => cases h0
theorem ps_take {st : List Value} {b : Nat} (hb : 1 ≤ b) (hlen : (st.take b).length = b) : st.take b = st.take (b - 1) ++ [pm_lk st (b - 1)] ∧ b - 1 < st.length := by
  have hl : b ≤ st.length := by rw [List.length_take] at hlen; omega
  obtain ⟨j, rfl⟩ : ∃ j, b = j + 1 := ⟨b - 1, by omega⟩
  have hj : j < st.length := by omega
  have e1 : st[j]? = some st[j] := List.getElem?_eq_getElem hj
  refine ⟨?_, hj⟩
  rw [Nat.add_sub_cancel, List.take_add_one, e1]
  rw [show pm_lk st j = st[j] from pm_at_get _ st e1]
  rfl
theorem ps_recv {H : Heap} {locs : List Loc} {q : Nat} {v : Value} (hE : ps_Env X s s.heap) (hs : va_S (ps_A X) s.heap H locs) (hw : ps_W X h H) {C : String} (hq : (q < pd_nC ∧ pd_R q = C) ∨ (q = 1000 ∧ C = "java/lang/String")) (hr : pm_rc h q v = true) : ∃ w, v = .ref w ∧ ps_v X v = .ref (ps_ad X w) ∧ ∃ cell : Cell, H[ps_ad X w]? = some cell ∧ cell.vm.isStatics = false ∧ s.vm.findClass C = some cell.cls := by
  cases v with
  | ref w =>
    refine ⟨w, rfl, ?_⟩
    rcases hq with ⟨hq1, hq2⟩ | ⟨rfl, rfl⟩
    · have h1000 : ¬ q = 1000 := by intro z; rw [z] at hq1; exact absurd hq1 (by decide)
      have hr : pm_is (pm_kd h w) 1 q = true := by simpa [pm_rc, h1000] using hr
      have hk := pm_is_e hr
      refine ⟨ps_vref hE hw (by rw [hk.1]; decide), ?_⟩
      have hr1 := ps_ro1 hE hw hk.1
      have he : (ps_ws X h)[w - pm_NR]? = some (ps_ad X w, .inr (q, ps_fs X h w q)) := by
        rw [← hk.2, ← ps_E_obj hk.1]
        exact ps_ws_at hr1 (hw.lt (by rw [hk.1]; decide))
      have := va_recv hE.1 hw.2.2.1 (ps_cl hq1) he
      rw [hq2] at this
      exact this
    · have hr : (pm_kd h w).1 = 3 := Nat.eq_of_beq_eq_true (by simpa [pm_rc] using hr)
      refine ⟨ps_vref hE hw (by rw [hr]; decide), ?_⟩
      have ro : w < pm_NR := by
        apply Nat.not_le.mp
        intro hq
        rcases hw.2.2.2.1 w hq (hw.lt (by rw [hr]; decide)) with ⟨z, -⟩ | ⟨z, -⟩ <;> rw [z] at hr <;> cases hr
      obtain ⟨e1, -, -⟩ := hw.2.2.2.2.2 w ro
      obtain ⟨⟨cell, d1, d2, d3, d4⟩, -⟩ := hE.2.2.1 w ro (by rw [← e1]; exact hr)
      refine ⟨cell, ?_, d2, d3⟩
      rw [ps_ad_ro ro]
      exact (hs.2.1 _ (Array.getElem?_eq_some_iff.mp d1).1 d4).trans d1
  | _ => cases hr
theorem ps_recv0 {H : Heap} {q : Nat} {v : Value} (hE : ps_Env X s s.heap) (hw : ps_W X h H) (hr : pm_rc h q v = true) : ∃ w, v = .ref w ∧ ps_v X v = .ref (ps_ad X w) := by
  cases v with
  | ref w =>
    refine ⟨w, rfl, ps_vref hE hw ?_⟩
    intro z
    by_cases h1000 : q = 1000
    · subst h1000
      have hr : (pm_kd h w).1 = 3 := Nat.eq_of_beq_eq_true (by simpa [pm_rc] using hr)
      rw [z] at hr; cases hr
    · have hr : pm_is (pm_kd h w) 1 q = true := by simpa [pm_rc, h1000] using hr
      have := (pm_is_e hr).1
      rw [z] at this; cases this
  | _ => cases hr
theorem ps_invokevirtual {n : Nat} (h9 : cc ≠ 9) (hcl : ps_call l R X call) (hC : cE ≤ R.cells ∧ sE ≤ R.slots) (hz : s.heap.size + cE = X.1 + (x.2.1.1 - pm_NR)) (hF : ps_F p s m args meth c k X) (hk : ∀ i ls st h, kk i ls st h = some x → ps_G p l e R s m args below meth c Q X k cE sE x i ls st h) (hok : pf_ok (pd_mm k) (pd_pcs k) (pd_pc k i) (pd_pc k (i + 1)) (.invokevirtual n, a, b, cc, v, tg) = true) (h0 : pm_sem (.invokevirtual n) a b cc v tg i kk call ls st h = some x) : ps_G p l e R s m args below meth c Q X k cE sE x i ls st h := by
  obtain ⟨hx, hb, hml, hown, hret, hnm, hts, hE, hz0, -⟩ := hF
  obtain ⟨hd, hn, hc⟩ := ps_ok (by intro q; cases q) hok
  have hnv := hE.2.2.2.2.2.2.2.1
  have hc : (Nat.ble (a + 1) pd_nM && (Nat.ble 1 a && (!(pd_mm a).2.2.2.2 && (pf_eqm (pd_pw (pm_at 0 tg 1)) (pd_mm k).1.cls n (pd_mm a).1 cc && (decide ((pf_narg (pd_mm a).1.desc).map (· + 1) = some b) && (decide (¬ (pd_mm a).1.name = "<init>") && (Nat.ble (pm_at 0 tg 0 + 1) pd_nC && decide (pd_R (pm_at 0 tg 0) = (pd_mm a).1.cls) || Nat.beq (pm_at 0 tg 0) 1000 && decide ((pd_mm a).1.cls = "java/lang/String")))))))) = true := by
    dsimp only [pf_chk] at hc
    split at hc
    · exact absurd rfl h9
    · exact hc
  simp only [Bool.and_eq_true, Bool.or_eq_true, Bool.not_eq_true', decide_eq_true_eq] at hc
  obtain ⟨c1, c2, c3, c4, c5, c6, c7⟩ := hc
  have ha2 : a < pd_nM := Nat.le_of_ble_eq_true c1
  have ha1 : 1 ≤ a := Nat.le_of_ble_eq_true c2
  obtain ⟨-, f2, f3, f4, f5, f6⟩ := pf_meth ha1 ha2
  obtain ⟨fi, fs⟩ := f2 c3
  have hcq : (pm_at 0 tg 0 < pd_nC ∧ pd_R (pm_at 0 tg 0) = (pd_mm a).1.cls) ∨ (pm_at 0 tg 0 = 1000 ∧ (pd_mm a).1.cls = "java/lang/String") := c7.imp (fun z => ⟨Nat.le_of_ble_eq_true z.1, z.2⟩) (fun z => ⟨Nat.eq_of_beq_eq_true z.1, z.2⟩)
  replace h0 : pm_go (Nat.ble (pm_cat (st.drop b)) 8 && (Nat.beq (st.take b).length b && pm_rc h (pm_at 0 tg 0) (pm_lk st (b - 1)))) (match call a (st.take b).reverse h with
      | some (r, h') => kk (i + 1) ls (pm_ret r (st.drop b)) h'
      | none => none) none = some x := by
    dsimp only [pm_sem] at h0
    split at h0
    · exact absurd rfl h9
    · exact h0
  obtain ⟨g, h0⟩ := pm_go_n h0
  simp only [Bool.and_eq_true] at g
  obtain ⟨t1, t2, t3⟩ := g
  have hcat : pm_cat (st.drop b) ≤ 8 := Nat.le_of_ble_eq_true t1
  have hlen : (st.take b).length = b := Nat.eq_of_beq_eq_true t2
  have hb1 : 1 ≤ b := by
    cases hz9 : pf_narg (pd_mm a).1.desc with
    | none => rw [hz9] at c5; cases c5
    | some j => rw [hz9] at c5; have q9 : j + 1 = b := Option.some.inj c5; omega
  obtain ⟨tk1, tk2⟩ := ps_take hb1 hlen
  have hnar : pf_narg (pd_mm a).1.desc = some (b - 1) := by
    cases hz9 : pf_narg (pd_mm a).1.desc with
    | none => rw [hz9] at c5; cases c5
    | some j => rw [hz9] at c5; have q9 : j + 1 = b := Option.some.inj c5; congr 1; omega
  split at h0
  next r h1 hcall =>
    obtain ⟨⟨m1, m2⟩, rm, r1, r2, r3, r4, hM⟩ := hcl a _ h r h1 hcall ha1 ha2
    obtain ⟨⟨g1, g2⟩, gW⟩ := hk _ _ _ _ h0
    refine ⟨⟨Nat.le_trans m1 g1, Nat.le_trans m2 g2⟩, fun H locs lsM cells slots q1 q2 hw hl hs => ?_⟩
    have K := fun H1 locs1 hw1 hs1 => gW H1 locs1 lsM (cells + (h1.1.1 - h.1.1)) (slots + (h1.1.2.1 - h.1.2.1)) (by omega) (by omega) hw1 hl hs1
    rw [hn] at K
    refine W.size (fun hbd => ?_)
    have hsz := ps_sizeEq hz0 hz (Nat.le_trans m1 g1) q1 hw hs hbd
    obtain ⟨lv, hl1, -⟩ := hl
    have hW8 : 2 * (F0 m (pd_pc k i) lsM ((st.drop b).map (ps_v X))).monitorRoom + (((st.drop b).map (ps_v X)).map fun v => v.category).sum ≤ 8 := by
      show 2 * 0 + _ ≤ 8
      rw [pm_cat_e hnv]
      omega
    obtain ⟨w, w1, w2, w3⟩ := ps_recv hE hs hw hcq t3
    have hrev : (st.take b).reverse = .ref w :: (st.take (b - 1)).reverse := by rw [tk1, List.reverse_append, w1]; rfl
    have hmap : (st.take b).reverse.map (ps_v X) = .ref (ps_ad X w) :: (st.take (b - 1)).reverse.map (ps_v X) := by rw [hrev, List.map_cons, ← w1, w2]
    have hst : (F0 m (pd_pc k i) lsM (st.map (ps_v X))).stack = ((st.take (b - 1)).reverse.map (ps_v X)).reverse ++ .ref (ps_ad X w) :: (st.drop b).map (ps_v X) := by
      show st.map (ps_v X) = _
      rw [List.map_reverse, List.reverse_reverse, ← w2, ← List.map_cons, ← List.map_append]
      have : st = st.take b ++ st.drop b := (List.take_append_drop b st).symm
      rw [tk1, List.append_assoc] at this
      exact congrArg (List.map (ps_v X)) this
    have hdd : (pd_mm a).1.cls ≠ "java/lang/invoke/MethodHandle" ∧ (pd_mm a).1.cls ≠ "java/lang/invoke/VarHandle" ∧ (parseMethodDescriptor (pd_mm a).1.desc).map (fun d => d.parameters.length) = some (b - 1) := ⟨f5.1, f5.2, hnar⟩
    have hal : ((st.take (b - 1)).reverse.map (ps_v X)).length = b - 1 := by rw [List.length_map, List.length_reverse, List.length_take]; omega
    have hpre := ps_pre (as := (st.take b).reverse) hE hs hw hsz
    rw [hmap] at hpre
    refine ps_ran (as := (Value.ref (ps_ad X w) :: (st.take (b - 1)).reverse.map (ps_v X)).toArray) hs ?_ (fun H1 locs1 hw1 hs1 => by rw [← ps_retst]; exact K H1 locs1 hw1 hs1)
    cases cc with
    | zero =>
      have ew := of_decide_eq_true c4
      exact va_runV (C := (pd_mm a).1.cls) ⟨hx, hb, hml, hown, hts⟩ hM ⟨callB_of (b - 1) hts (ps_mw_good ha1 ha2) rfl r1 r2 (hts _ (pf_good f3 rfl)) (hts _ (pf_good (pf_pw_in ew (fun z => by cases z)) rfl)) hdd ⟨r3, r4⟩, hts _ (pf_good fi rfl), hts _ (pf_good (fs c6) rfl)⟩ ⟨ps_blind, w3, hpre⟩ rfl hal hl1.1 hst hW8 hd ⟨by omega, by omega⟩
    | succ cc =>
      have ew := of_decide_eq_true c4
      exact va_runVN (host := "SkinTent") (C := (pd_mm a).1.cls) ⟨hx, hb, hml, hown, hts⟩ hM ⟨va_cnB (b - 1) hts (ps_mw_good ha1 ha2) rfl r1 r2 (hE.2.2.2.2.2.1 _ (pf_pw_in ew (fun z => by cases z)) rfl) (hts _ (pf_good f3 rfl)) hdd ⟨r3, r4⟩, hts _ (pf_good fi rfl), hts _ (pf_good (fs c6) rfl)⟩ ⟨ps_blind, w3, hpre⟩ rfl hal hl1.1 hst hW8 hd ⟨by omega, by omega⟩
  next => cases h0
theorem ps_invokespecial {n : Nat} (h7 : cc ≠ 7) (hcl : ps_call l R X call) (hC : cE ≤ R.cells ∧ sE ≤ R.slots) (hz : s.heap.size + cE = X.1 + (x.2.1.1 - pm_NR)) (hF : ps_F p s m args meth c k X) (hk : ∀ i ls st h, kk i ls st h = some x → ps_G p l e R s m args below meth c Q X k cE sE x i ls st h) (hok : pf_ok (pd_mm k) (pd_pcs k) (pd_pc k i) (pd_pc k (i + 1)) (.invokespecial n, a, b, cc, v, tg) = true) (h0 : pm_sem (.invokespecial n) a b cc v tg i kk call ls st h = some x) : ps_G p l e R s m args below meth c Q X k cE sE x i ls st h := by
  obtain ⟨hx, hb, hml, hown, hret, hnm, hts, hE, hz0, -⟩ := hF
  obtain ⟨hd, hn, hc⟩ := ps_ok (by intro q; cases q) hok
  have hnv := hE.2.2.2.2.2.2.2.1
  have hc : (Nat.ble (a + 1) pd_nM && (Nat.ble 1 a && (!(pd_mm a).2.2.2.2 && (pf_eqm (pd_pw (pm_at 0 tg 1)) (pd_mm k).1.cls n (pd_mm a).1 cc && (decide ((pf_narg (pd_mm a).1.desc).map (· + 1) = some b) && (decide ((pd_mm a).1.name = "<init>") && decide ((pd_mm a).2.2.2.1 = none))))))) = true := by
    dsimp only [pf_chk] at hc
    split at hc
    · exact absurd rfl h7
    · exact hc
  simp only [Bool.and_eq_true, Bool.not_eq_true', decide_eq_true_eq] at hc
  obtain ⟨c1, c2, c3, c4, c5, c6, c7⟩ := hc
  have ha2 : a < pd_nM := Nat.le_of_ble_eq_true c1
  have ha1 : 1 ≤ a := Nat.le_of_ble_eq_true c2
  obtain ⟨-, f2, f3, f4, f5, f6⟩ := pf_meth ha1 ha2
  obtain ⟨fi, -⟩ := f2 c3
  replace h0 : pm_go (Nat.ble (pm_cat (st.drop b)) 8 && (Nat.beq (st.take b).length b && pm_rc h (pm_at 0 tg 0) (pm_lk st (b - 1)))) (match call a (st.take b).reverse h with
      | some (r, h') => kk (i + 1) ls (pm_ret r (st.drop b)) h'
      | none => none) none = some x := by
    dsimp only [pm_sem] at h0
    split at h0
    · exact absurd rfl h7
    · exact h0
  obtain ⟨g, h0⟩ := pm_go_n h0
  simp only [Bool.and_eq_true] at g
  obtain ⟨t1, t2, t3⟩ := g
  have hcat : pm_cat (st.drop b) ≤ 8 := Nat.le_of_ble_eq_true t1
  have hlen : (st.take b).length = b := Nat.eq_of_beq_eq_true t2
  have hb1 : 1 ≤ b := by
    cases hz9 : pf_narg (pd_mm a).1.desc with
    | none => rw [hz9] at c5; cases c5
    | some j => rw [hz9] at c5; have q9 : j + 1 = b := Option.some.inj c5; omega
  obtain ⟨tk1, tk2⟩ := ps_take hb1 hlen
  have hnar : pf_narg (pd_mm a).1.desc = some (b - 1) := by
    cases hz9 : pf_narg (pd_mm a).1.desc with
    | none => rw [hz9] at c5; cases c5
    | some j => rw [hz9] at c5; have q9 : j + 1 = b := Option.some.inj c5; congr 1; omega
  split at h0
  next r h1 hcall =>
    obtain ⟨⟨m1, m2⟩, rm, r1, r2, r3, r4, hM⟩ := hcl a _ h r h1 hcall ha1 ha2
    obtain ⟨⟨g1, g2⟩, gW⟩ := hk _ _ _ _ h0
    refine ⟨⟨Nat.le_trans m1 g1, Nat.le_trans m2 g2⟩, fun H locs lsM cells slots q1 q2 hw hl hs => ?_⟩
    have K := fun H1 locs1 hw1 hs1 => gW H1 locs1 lsM (cells + (h1.1.1 - h.1.1)) (slots + (h1.1.2.1 - h.1.2.1)) (by omega) (by omega) hw1 hl hs1
    rw [hn] at K
    refine W.size (fun hbd => ?_)
    have hsz := ps_sizeEq hz0 hz (Nat.le_trans m1 g1) q1 hw hs hbd
    obtain ⟨lv, hl1, -⟩ := hl
    have hW8 : 2 * (F0 m (pd_pc k i) lsM ((st.drop b).map (ps_v X))).monitorRoom + (((st.drop b).map (ps_v X)).map fun v => v.category).sum ≤ 8 := by
      show 2 * 0 + _ ≤ 8
      rw [pm_cat_e hnv]
      omega
    obtain ⟨w, w1, w2⟩ := ps_recv0 hE hw t3
    have hrev : (st.take b).reverse = .ref w :: (st.take (b - 1)).reverse := by rw [tk1, List.reverse_append, w1]; rfl
    have hmap : (st.take b).reverse.map (ps_v X) = .ref (ps_ad X w) :: (st.take (b - 1)).reverse.map (ps_v X) := by rw [hrev, List.map_cons, ← w1, w2]
    have hst : (F0 m (pd_pc k i) lsM (st.map (ps_v X))).stack = ((st.take (b - 1)).reverse.map (ps_v X)).reverse ++ .ref (ps_ad X w) :: (st.drop b).map (ps_v X) := by
      show st.map (ps_v X) = _
      rw [List.map_reverse, List.reverse_reverse, ← w2, ← List.map_cons, ← List.map_append]
      have : st = st.take b ++ st.drop b := (List.take_append_drop b st).symm
      rw [tk1, List.append_assoc] at this
      exact congrArg (List.map (ps_v X)) this
    have hdd : (pd_mm a).1.cls ≠ "java/lang/invoke/MethodHandle" ∧ (pd_mm a).1.cls ≠ "java/lang/invoke/VarHandle" ∧ (parseMethodDescriptor (pd_mm a).1.desc).map (fun d => d.parameters.length) = some (b - 1) := ⟨f5.1, f5.2, hnar⟩
    have hal : ((st.take (b - 1)).reverse.map (ps_v X)).length = b - 1 := by rw [List.length_map, List.length_reverse, List.length_take]; omega
    have hpre := ps_pre (as := (st.take b).reverse) hE hs hw hsz
    rw [hmap] at hpre
    refine ps_ran (as := (Value.ref (ps_ad X w) :: (st.take (b - 1)).reverse.map (ps_v X)).toArray) hs ?_ (fun H1 locs1 hw1 hs1 => by rw [← ps_retst]; exact K H1 locs1 hw1 hs1)
    have hM2 := hM
    rw [show ps_mw a = Cond.code (pd_mm a).1 (pd_mm a).2.1 (pd_mm a).2.2.1 none :: pf_ws by unfold ps_mw; rw [c7]] at hM2
    have hG2 : GoodIn pf_ws (Cond.code (pd_mm a).1 (pd_mm a).2.1 (pd_mm a).2.2.1 none :: pf_ws) := by
      have := ps_mw_good ha1 ha2
      unfold ps_mw at this
      rw [c7] at this
      exact this
    cases cc with
    | zero =>
      have ew := of_decide_eq_true c4
      exact va_runI ⟨hx, hb, hml, hown, hts⟩ hM2 ⟨callB_of (b - 1) hts hG2 rfl r1 r2 (hts _ (pf_good f3 rfl)) (hts _ (pf_good (pf_pw_in ew (fun z => by cases z)) rfl)) hdd ⟨r3, r4⟩, c6, hts _ (pf_good fi rfl)⟩ ⟨ps_blind, hpre⟩ rfl hal hl1.1 hst hW8 hd ⟨by omega, by omega⟩
    | succ cc =>
      have ew := of_decide_eq_true c4
      exact va_runIN (host := "SkinTent") ⟨hx, hb, hml, hown, hts⟩ hM2 ⟨va_cnB (b - 1) hts hG2 rfl r1 r2 (hE.2.2.2.2.2.1 _ (pf_pw_in ew (fun z => by cases z)) rfl) (hts _ (pf_good f3 rfl)) hdd ⟨r3, r4⟩, c6, hts _ (pf_good fi rfl)⟩ ⟨ps_blind, hpre⟩ rfl hal hl1.1 hst hW8 hd ⟨by omega, by omega⟩
  next => cases h0
end
