/-! calls -/
abbrev pm_row : Type := pm_T
def pm_mF (m : pm_T) : Prop := Cond.code m.1 m.2.1 m.2.2.1 m.2.2.2.1 ∈ pm_gt ∧ (m.2.2.2.2.1 = 0 → Cond.static m.1 ∈ pm_gt) ∧ (m.2.2.2.2.1 = 1 → Cond.instanceMethod m.1 ∈ pm_gt ∧ Cond.selects m.1.cls m.1 m.1 ∈ pm_gt) ∧ (m.2.2.2.2.1 = 2 → Cond.instanceMethod m.1 ∈ pm_gt ∧ m.1.name = "<init>" ∧ m.2.2.2.1 = none) ∧ Cond.initialized m.1.cls ∈ pm_gt ∧ (m.1.cls ≠ "java/lang/invoke/MethodHandle" ∧ m.1.cls ≠ "java/lang/invoke/VarHandle") ∧ plainName m.1.cls = true ∧ ((parseMethodDescriptor m.1.desc).map (fun d => d.parameters.length) = some (match m.2.2.2.2.1 with
    | 0 => m.2.2.2.2.2.1
    | _ => m.2.2.2.2.2.1 - 1)) ∧ m.1.cls = pm_cn m.2.2.2.2.2.2.1 ∧ m.2.2.1 ≤ 16 ∧ (m.2.2.2.2.1 = 0 ∨ 1 ≤ m.2.2.2.2.2.1)
theorem pm_and9 {a b c d e f g h i : Bool} (q : (a && b && c && d && e && f && g && h && i) = true) : a = true ∧ b = true ∧ c = true ∧ d = true ∧ e = true ∧ f = true ∧ g = true ∧ h = true ∧ i = true := by
  simp only [Bool.and_eq_true] at q
  obtain ⟨⟨⟨⟨⟨⟨⟨⟨q1, q2⟩, q3⟩, q4⟩, q5⟩, q6⟩, q7⟩, q8⟩, q9⟩ := q
  exact ⟨q1, q2, q3, q4, q5, q6, q7, q8, q9⟩
theorem pm_mF_of {m : pm_T} (h1 : pm_mtW m = true) (h2 : Cond.code m.1 m.2.1 m.2.2.1 m.2.2.2.1 ∈ pm_gt) : pm_mF m := by
  obtain ⟨y, bytes, maxL, ret, kind, n, own, p1, p2, p3, p4⟩ := m
  have h3 := pm_and9 h1
  clear h1
  obtain ⟨g1, g2, g3, g4, g5, g6, g7, g8, g9⟩ := h3
  have g2' := pm_at_in g2
  have g3' := of_decide_eq_true g3
  have g4' := of_decide_eq_true g4
  have g6' := of_decide_eq_true g6
  have g7' := of_decide_eq_true g7
  have g8' := of_decide_eq_true g8
  have g9' := of_decide_eq_true g9
  clear g2 g3 g4 g6 g7 g8 g9
  refine ⟨h2, fun hk => ?_, fun hk => ?_, fun hk => ?_, g2', ⟨g3', g4'⟩, g5, ?_, g7', g8', g9'⟩
  · have hk : kind = 0 := hk
    subst hk
    have g1 : pm_at p2 (.static y) = true := g1
    exact pm_at_in g1
  · have hk : kind = 1 := hk
    subst hk
    have g1 : (pm_at p2 (.instanceMethod y) && pm_at p3 (.selects y.cls y y)) = true := g1
    rw [Bool.and_eq_true] at g1
    exact ⟨pm_at_in g1.1, pm_at_in g1.2⟩
  · have hk : kind = 2 := hk
    subst hk
    have g1 : (pm_at p2 (.instanceMethod y) && decide (y.name = "<init>") && decide (ret = none)) = true := g1
    rw [Bool.and_eq_true, Bool.and_eq_true] at g1
    exact ⟨pm_at_in g1.1.1, of_decide_eq_true g1.1.2, of_decide_eq_true g1.2⟩
  · cases kind with
    | zero => exact g6'
    | succ kind => exact g6'
theorem pm_mt_at {a : Nat} {m : pm_T} (h : pm_mt[a]? = some m) : pm_mF m := pm_mF_of (List.all_eq_true.mp pm_mt_ok m (List.mem_of_getElem? h)) (pm_mt_cd m (List.mem_of_getElem? h))
theorem pm_okM_at {own idx a b d kd : Nat} (ho : own < 15) (h : pm_okM own idx a b d kd = true) : ∃ (nest : Bool) (m : pm_T), pm_mt[a]? = some m ∧ m.2.2.2.2.1 = kd ∧ m.2.2.2.2.2.1 = b ∧ pm_rd3 m.2.2.2.1 = d ∧ d ≤ 2 ∧ (kd = 2 ∨ nest = false) ∧ (nest = false → Cond.methodLink (pm_cn own) idx m.1 ∈ pm_gt) ∧ (nest = true → Cond.methodLinkNest (pm_cn own) idx m.1 "EggsLast" ∈ lw_tbl) := by
  unfold pm_okM at h
  split at h
  · rename_i mid nest pos m hf hm
    simp only [Bool.and_eq_true, Bool.or_eq_true, decide_eq_true_eq] at h
    obtain ⟨⟨⟨⟨⟨rfl, h2⟩, h3⟩, h4⟩, h5⟩, h6⟩ := h
    have h7 := pm_all (P := pm_mlW) pm_ml_ok ho (pm_find_mem hf)
    unfold pm_mlW at h7
    dsimp only at h7
    rw [hm] at h7
    refine ⟨nest, m, hm, h2, h3, h4, h5, h6, fun hn => ?_, fun hn => ?_⟩
    · subst hn
      exact pm_at_in h7
    · subst hn
      simp only [Bool.and_eq_true, decide_eq_true_eq] at h7
      exact List.mem_of_getElem? h7.1
  · cases h
/-- what the calls of the pure machine at a depth are worth on the JVM -/
def pm_Calls (l : Launch) (D : va_G) (s0 : Nat) (od : Nat → Nat) (tid : Nat → ClassId) (L : Nat) (xs : Nat → Int32) (call : Nat → List Value → pm_H → Option pm_R) (d : Nat) : Prop :=
  ∀ (mid : Nat) (av : List Value) (σ : pm_H) (v : Option Value) (τ : pm_H), call mid av σ = some (v, τ) → ∀ row : pm_T, pm_mt[mid]? = some row → pm_le σ τ ∧
    Met l row.1 (Cond.code row.1 row.2.1 row.2.2.1 row.2.2.2.1 :: pm_gt) { frames := d, cells := τ.length - σ.length, slots := pm_sz τ - pm_sz σ, locals := 40 * d } (va_Pc (av.map (pm_tv s0 od)) (pm_Wd D s0 od tid L xs σ)) (pm_Q D s0 od tid v τ) (τ.length - σ.length) (pm_sz τ - pm_sz σ) (pm_A s0) ∧
    (row.2.2.2.2.1 = 1 → ∃ k fs As, av = .ref k :: As ∧ σ[k]? = some (.inr (row.2.2.2.2.2.2.1, fs)) ∧ row.2.2.2.2.2.2.1 < 9) ∧ (row.2.2.2.2.1 = 2 → ∃ k As, av = .ref k :: As)
theorem pm_cat (s0 : Nat) (od : Nat → Nat) : ∀ l : List Value, ((l.map (pm_tv s0 od)).map fun v => v.category).sum ≤ 2 * l.length
  | [] => by simp
  | v :: l => by
    have := pm_cat s0 od l
    have h2 : (pm_tv s0 od v).category ≤ 2 := by rcases lv_cat (pm_tv s0 od v) with h | h <;> omega
    simp only [List.map_cons, List.sum_cons, List.length_cons]
    omega
theorem pm_cat2 (s0 : Nat) (od : Nat → Nat) : ∀ l : List Value, ((l.map (pm_tv s0 od)).map fun v => v.category).sum ≤ pm_cw l
  | [] => by simp
  | v :: l => by
    have := pm_cat2 s0 od l
    have h2 : (pm_tv s0 od v).category ≤ 2 := by rcases lv_cat (pm_tv s0 od v) with h | h <;> omega
    simp only [List.map_cons, List.sum_cons]
    unfold pm_cw
    split
    · rename_i e; cases e
    · rename_i e; cases e
      have : (pm_tv s0 od (.int ‹_›)).category = 1 := rfl
      omega
    · rename_i e; cases e
      have : (pm_tv s0 od (.ref ‹_›)).category = 1 := rfl
      omega
    · rename_i e; cases e
      have : (pm_tv s0 od (.retAddr ‹_›)).category = 1 := rfl
      omega
    · rename_i e; cases e
      omega
theorem pm_goodIn {m : pm_T} (h : Cond.code m.1 m.2.1 m.2.2.1 m.2.2.2.1 ∈ pm_gt) : GoodIn pm_gt (Cond.code m.1 m.2.1 m.2.2.1 m.2.2.2.1 :: pm_gt) := by
  have hg : ∀ w ∈ pm_gt, w ∈ pm_gt ∧ ((w.onTables && w.keeps) = true ∨ ∃ ty, w = .arrayClass ty) := fun w hw => ⟨hw, good_of_word (List.mem_filter.mp hw).2⟩
  intro w hw
  rcases List.mem_cons.mp hw with rfl | hw
  · exact hg _ h
  · exact hg _ hw
section PS4
variable {D : va_G} {s0 : Nat} {od : Nat → Nat} {tid : Nat → ClassId} {L : Nat} {xs : Nat → Int32}
variable {p : Program} {l : Launch} {e : Env} {R : Room} {s : State} {m : MethodId} {args : Array Value} {below : List Frame} {meth : Method} {c : Code} {H : Heap} {locs : List Loc} {cells slots : Nat} {Q : State → Prop}
variable {M : pm_M} {bytes : ByteArray} {maxL : Nat} {ini : Bool} {L0 Z0 : Nat} {r : pm_R} {pc : Nat} {LS : Array Slot} {st : List Value} {σ : pm_H}
/-- the world of a call from here -/
theorem pm_wd (hE : pm_E D s0 od tid L xs p s m args meth c M bytes maxL ini L0 R) (hG : pm_G D s0 od tid s L0 Z0 σ H locs cells slots) (hz : H.size = s0 + σ.length) {U : State} (hU : U.heap = H) (hW : s.WarmedH U.vm) : pm_Wd D s0 od tid L xs σ U := by
  obtain ⟨hx, hb, hml, hown, hts, hW0, hs, hini, ho, hco, hfr, hlo⟩ := hE
  refine ⟨by rw [hU]; exact hG.1, by rw [hU]; exact hz, ?_⟩
  rw [hU]
  exact (hW0.kept (by omega) hG.2.1.2.1).warm hW
theorem pm_after (hG : pm_G D s0 od tid s L0 Z0 σ H locs cells slots) {v : Option Value} {τ : pm_H} (hle : pm_le σ τ) {rest : List Value} {a : Array Value} {st0 : List Value} (hr : va_Run p l e R s m args below meth c H locs cells slots (τ.length - σ.length) (pm_sz τ - pm_sz σ) (F0 m pc LS st0) (rest.map (pm_tv s0 od)) (pm_Q D s0 od tid v τ a) (pm_A s0)) {d : Nat} {k : List Value → pm_H → Option pm_R} (h : pm_call3 d (some (v, τ)) k rest = some r) (hk : ∀ st9 σ9 H9 locs9 c9 s9, k st9 σ9 = some r → pm_G D s0 od tid s L0 Z0 σ9 H9 locs9 c9 s9 → W p l e R s m args below meth c H9 locs9 c9 s9 Q (F0 m (pc + 3) LS (st9.map (pm_tv s0 od)))) : W p l e R s m args below meth c H locs cells slots Q (F0 m pc LS st0) := by
  have hGt : ∀ (t : State) (H1 : Heap) (locs1 : List Loc), t.heap = H1 → pm_Hd D s0 od tid τ t → va_S (pm_A s0) s.heap H1 locs1 → pm_G D s0 od tid s L0 Z0 τ H1 locs1 (cells + (τ.length - σ.length)) (slots + (pm_sz τ - pm_sz σ)) := by
    intro t H1 locs1 ht hB hS1
    obtain ⟨h1, h2, h3, h4⟩ := hG
    obtain ⟨g1, g2⟩ := hle
    refine ⟨by rw [← ht]; exact hB.1, hS1, by omega, by omega⟩
  unfold pm_call3 at h
  split at h
  · obtain ⟨z, hz, h⟩ := pm_bind_I h
    unfold pm_cV at hz
    split at hz
    · rename_i σ9 he
      cases hz
      cases he
      exact va_callv (a := a) hr hG.2.1 (fun q _ h => h) (fun q h => h) (fun u t H1 locs1 ht _ _ hB _ _ hS1 => hk _ _ _ _ _ _ h (hGt t H1 locs1 ht hB hS1))
    · cases hz
  · obtain ⟨z, hz, h⟩ := pm_bind_I h
    unfold pm_cI at hz
    split at hz
    · rename_i x σ9 he
      cases hz
      cases he
      refine va_calli (a := a) hr hG.2.1 (fun q _ h => h) (fun q h => h) (fun r9 u t H1 locs1 ht _ hp hB _ _ hS1 => ?_)
      subst hp
      exact hk _ _ _ _ _ _ h (hGt t H1 locs1 ht hB hS1)
    · cases hz
  · obtain ⟨z, hz, h⟩ := pm_bind_I h
    unfold pm_cJ at hz
    split at hz
    · rename_i x σ9 he
      cases hz
      cases he
      refine va_calll (a := a) hr hG.2.1 (fun q _ h => h) (fun q h => h) (fun r9 u t H1 locs1 ht _ hp hB _ _ hS1 => ?_)
      subst hp
      exact hk _ _ _ _ _ _ h (hGt t H1 locs1 ht hB hS1)
    · cases hz
theorem pm_call3_some {d : Nat} {o : Option pm_R} {k : List Value → pm_H → Option pm_R} {rest : List Value} (h : pm_call3 d o k rest = some r) : ∃ v τ, o = some (v, τ) := by
  cases o with
  | some z => exact ⟨z.1, z.2, rfl⟩
  | none =>
    unfold pm_call3 at h
    split at h <;> cases h
theorem pm_call3_le {d : Nat} {v : Option Value} {τ : pm_H} {k : List Value → pm_H → Option pm_R} {rest : List Value} (hmono : ∀ st τ, k st τ = some r → pm_le τ r.2) (h : pm_call3 d (some (v, τ)) k rest = some r) : pm_le τ r.2 := by
  unfold pm_call3 at h
  split at h
  · obtain ⟨z, hz, h⟩ := pm_bind_I h
    unfold pm_cV at hz
    split at hz
    · rename_i he; cases hz; cases he; exact hmono _ _ h
    · cases hz
  · obtain ⟨z, hz, h⟩ := pm_bind_I h
    unfold pm_cI at hz
    split at hz
    · rename_i he; cases hz; cases he; exact hmono _ _ h
    · cases hz
  · obtain ⟨z, hz, h⟩ := pm_bind_I h
    unfold pm_cJ at hz
    split at hz
    · rename_i he; cases hz; cases he; exact hmono _ _ h
    · cases hz
theorem pm_roomC (hG : pm_G D s0 od tid s L0 Z0 σ H locs cells slots) {τ : pm_H} (hle : pm_le σ τ) (hle2 : pm_le τ r.2) (hRr : r.2.length ≤ R.cells + L0 ∧ pm_sz r.2 ≤ R.slots + Z0) : cells + (τ.length - σ.length) ≤ R.cells ∧ slots + (pm_sz τ - pm_sz σ) ≤ R.slots := by
  obtain ⟨-, -, h3, h4⟩ := hG
  obtain ⟨g1, g2⟩ := hle
  obtain ⟨k1, k2⟩ := hle2
  obtain ⟨f1, f2⟩ := hRr
  omega
variable {call : Nat → List Value → pm_H → Option pm_R} {d0 : Nat} {ls : pm_L}
set_option maxHeartbeats 2000000 in
theorem pm_s_callS (hE : pm_E D s0 od tid L xs p s m args meth c M bytes maxL ini L0 R) {idx a b d : Nat} (hf : pm_okM M.1 idx a b d 0 = true) (hL : pm_Rel s0 od maxL M.2.2.1 ls LS) (hG : pm_G D s0 od tid s L0 Z0 σ H locs cells slots) (hcall : pm_Calls l D s0 od tid L xs call d0) (hRd : d0 + 1 ≤ R.frames ∧ 40 * (d0 + 1) ≤ R.locals) (hdg : decode bytes pc = .ok (.invokestatic idx, 3)) {k : List Value → pm_H → Option pm_R} (hmono : ∀ st τ, k st τ = some r → pm_le τ r.2) (hRr : r.2.length ≤ R.cells + L0 ∧ pm_sz r.2 ≤ R.slots + Z0) {av rest : List Value} (ht : pm_take b [] st = some (av, rest)) (hrl : pm_cw rest ≤ 8) (h : pm_call3 d (call a av σ) k rest = some r) (hk : ∀ st9 σ9 H9 locs9 c9 s9, k st9 σ9 = some r → pm_G D s0 od tid s L0 Z0 σ9 H9 locs9 c9 s9 → W p l e R s m args below meth c H9 locs9 c9 s9 Q (F0 m (pc + 3) LS (st9.map (pm_tv s0 od)))) : W p l e R s m args below meth c H locs cells slots Q (F0 m pc LS (st.map (pm_tv s0 od))) := by
  have hE2 := hE
  obtain ⟨hx, hb, hml, hown, hts, hW0, hs, hini, ho, hco, hfr, hlo⟩ := hE
  obtain ⟨nest, row, hrow, hkd, hnb, hrd, hd2, hnn, hl1, hl2⟩ := pm_okM_at ho hf
  obtain ⟨q1, q2, q3, q4, q5, q6, q7, q8, q9, q10, q11⟩ := pm_mt_at hrow
  obtain ⟨v, τ, hcv⟩ := pm_call3_some h
  rw [hcv] at h
  obtain ⟨hle, hMet, -, -⟩ := hcall a av σ v τ hcv row hrow
  obtain ⟨hst, hlen⟩ := pm_take_eq _ _ _ _ _ ht
  have hnf : nest = false := by rcases hnn with h9 | h9
                                · cases h9
                                · exact h9
  refine pm_Wsz (fun hz => ?_)
  have hsz := pm_exact hs hG hz
  have hn : (av.map (pm_tv s0 od)).length = row.2.2.2.2.2.1 := by rw [List.length_map, hlen, hnb]; simp
  rw [hkd] at q8
  have cb : CallB R s args (pm_cn M.1) idx row.1 row.2.1 row.2.2.1 row.2.2.2.1 (Cond.code row.1 row.2.1 row.2.2.1 row.2.2.2.1 :: pm_gt) { frames := d0, cells := τ.length - σ.length, slots := pm_sz τ - pm_sz σ, locals := 40 * d0 } (τ.length - σ.length) (pm_sz τ - pm_sz σ) row.2.2.2.2.2.1 := callB_of row.2.2.2.2.2.1 hts (pm_goodIn q1) rfl rfl rfl (hts _ q5) (hts _ (hl1 hnf)) ⟨q6.1, q6.2, q8⟩ ⟨hRd.1, by show 8 + (row.2.2.1 + 11) + 40 * d0 ≤ R.locals; omega⟩
  have hcat := pm_cat2 s0 od rest
  refine pm_after (rest := rest) hG hle (va_runS (As := av.map (pm_tv s0 od)) (rest := rest.map (pm_tv s0 od)) ⟨hx, hb, hml, hown, hts⟩ hMet ⟨cb, hts _ (q2 hkd)⟩ ⟨pm_blind, fun U hU hW => ⟨rfl, pm_wd hE2 hG hsz hU hW⟩⟩ rfl hn hL.1.1 ?_ (lv_room (by omega)) hdg (pm_roomC hG hle (pm_call3_le hmono h) hRr)) h hk
  show st.map (pm_tv s0 od) = _
  rw [← List.map_reverse, ← List.map_append, hst]
  rfl
set_option maxHeartbeats 2000000 in
theorem pm_s_callV (hE : pm_E D s0 od tid L xs p s m args meth c M bytes maxL ini L0 R) {idx a b d : Nat} (hf : pm_okM M.1 idx a b d 1 = true) (hL : pm_Rel s0 od maxL M.2.2.1 ls LS) (hG : pm_G D s0 od tid s L0 Z0 σ H locs cells slots) (hcall : pm_Calls l D s0 od tid L xs call d0) (hRd : d0 + 1 ≤ R.frames ∧ 40 * (d0 + 1) ≤ R.locals) (hdg : decode bytes pc = .ok (.invokevirtual idx, 3)) {k : List Value → pm_H → Option pm_R} (hmono : ∀ st τ, k st τ = some r → pm_le τ r.2) (hRr : r.2.length ≤ R.cells + L0 ∧ pm_sz r.2 ≤ R.slots + Z0) {av rest : List Value} (ht : pm_take b [] st = some (av, rest)) (hrl : pm_cw rest ≤ 8) (h : pm_call3 d (call a av σ) k rest = some r) (hk : ∀ st9 σ9 H9 locs9 c9 s9, k st9 σ9 = some r → pm_G D s0 od tid s L0 Z0 σ9 H9 locs9 c9 s9 → W p l e R s m args below meth c H9 locs9 c9 s9 Q (F0 m (pc + 3) LS (st9.map (pm_tv s0 od)))) : W p l e R s m args below meth c H locs cells slots Q (F0 m pc LS (st.map (pm_tv s0 od))) := by
  have hE2 := hE
  obtain ⟨hx, hb, hml, hown, hts, hW0, hs, hini, ho, hco, hfr, hlo⟩ := hE
  obtain ⟨nest, row, hrow, hkd, hnb, hrd, hd2, hnn, hl1, hl2⟩ := pm_okM_at ho hf
  obtain ⟨q1, q2, q3, q4, q5, q6, q7, q8, q9, q10, q11⟩ := pm_mt_at hrow
  obtain ⟨v, τ, hcv⟩ := pm_call3_some h
  rw [hcv] at h
  obtain ⟨hle, hMet, hrc, -⟩ := hcall a av σ v τ hcv row hrow
  obtain ⟨kk, fs, As, hav, hkk, hown9⟩ := hrc hkd
  obtain ⟨hst, hlen⟩ := pm_take_eq _ _ _ _ _ ht
  have hnf : nest = false := by rcases hnn with h9 | h9
                                · cases h9
                                · exact h9
  refine pm_Wsz (fun hz => ?_)
  have hsz := pm_exact hs hG hz
  have hn : (As.map (pm_tv s0 od)).length = row.2.2.2.2.2.1 - 1 := by
    rw [hav] at hlen
    simp at hlen
    rw [List.length_map]
    omega
  rw [hkd] at q8
  have cb : CallB R s args (pm_cn M.1) idx row.1 row.2.1 row.2.2.1 row.2.2.2.1 (Cond.code row.1 row.2.1 row.2.2.1 row.2.2.2.1 :: pm_gt) { frames := d0, cells := τ.length - σ.length, slots := pm_sz τ - pm_sz σ, locals := 40 * d0 } (τ.length - σ.length) (pm_sz τ - pm_sz σ) (row.2.2.2.2.2.1 - 1) := callB_of (row.2.2.2.2.2.1 - 1) hts (pm_goodIn q1) rfl rfl rfl (hts _ q5) (hts _ (hl1 hnf)) ⟨q6.1, q6.2, q8⟩ ⟨hRd.1, by show 8 + (row.2.2.1 + 11) + 40 * d0 ≤ R.locals; omega⟩
  have hcat := pm_cat2 s0 od rest
  have hrecv : ∃ cell : Cell, H[s0 + kk]? = some cell ∧ cell.vm.isStatics = false ∧ s.vm.findClass row.1.cls = some cell.cls := by
    obtain ⟨rr, hrr⟩ : ∃ rr, pm_cl[row.2.2.2.2.2.2.1]? = some rr := ⟨pm_cl[row.2.2.2.2.2.2.1], List.getElem?_eq_getElem (by simpa [pm_cl] using hown9)⟩
    have := va_recv hW0.1 hG.1 hrr (pm_ws_at (e := .inr (row.2.2.2.2.2.2.1, fs)) hkk)
    rw [(pm_cl_nm hrr).1, ← q9] at this
    exact this
  refine pm_after (rest := rest) hG hle (va_runV (C := row.1.cls) (b := s0 + kk) (As := As.map (pm_tv s0 od)) (rest := rest.map (pm_tv s0 od)) ⟨hx, hb, hml, hown, hts⟩ hMet ⟨cb, hts _ (q3 hkd).1, hts _ (q3 hkd).2⟩ ⟨pm_blind, hrecv, fun U hU hW => ⟨by rw [hav]; rfl, pm_wd hE2 hG hsz hU hW⟩⟩ rfl hn hL.1.1 ?_ (lv_room (by omega)) hdg (pm_roomC hG hle (pm_call3_le hmono h) hRr)) h hk
  show st.map (pm_tv s0 od) = _
  have h9 : st = As.reverse ++ (.ref kk :: rest) := by
    have h8 : av.reverse ++ rest = st := hst
    rw [← h8, hav]
    simp
  rw [h9]
  simp
  rfl
set_option maxHeartbeats 2000000 in
theorem pm_s_callI (hE : pm_E D s0 od tid L xs p s m args meth c M bytes maxL ini L0 R) {idx a b d : Nat} (hf : pm_okM M.1 idx a b d 2 = true) (hL : pm_Rel s0 od maxL M.2.2.1 ls LS) (hG : pm_G D s0 od tid s L0 Z0 σ H locs cells slots) (hcall : pm_Calls l D s0 od tid L xs call d0) (hRd : d0 + 1 ≤ R.frames ∧ 40 * (d0 + 1) ≤ R.locals) (hdg : decode bytes pc = .ok (.invokespecial idx, 3)) {k : List Value → pm_H → Option pm_R} (hmono : ∀ st τ, k st τ = some r → pm_le τ r.2) (hRr : r.2.length ≤ R.cells + L0 ∧ pm_sz r.2 ≤ R.slots + Z0) {av rest : List Value} (ht : pm_take b [] st = some (av, rest)) (hrl : pm_cw rest ≤ 8) (h : pm_call3 d (call a av σ) k rest = some r) (hk : ∀ st9 σ9 H9 locs9 c9 s9, k st9 σ9 = some r → pm_G D s0 od tid s L0 Z0 σ9 H9 locs9 c9 s9 → W p l e R s m args below meth c H9 locs9 c9 s9 Q (F0 m (pc + 3) LS (st9.map (pm_tv s0 od)))) : W p l e R s m args below meth c H locs cells slots Q (F0 m pc LS (st.map (pm_tv s0 od))) := by
  have hE2 := hE
  obtain ⟨hx, hb, hml, hown, hts, hW0, hs, hini, ho, hco, hfr, hlo⟩ := hE
  obtain ⟨nest, row, hrow, hkd, hnb, hrd, hd2, hnn, hl1, hl2⟩ := pm_okM_at ho hf
  obtain ⟨q1, q2, q3, q4, q5, q6, q7, q8, q9, q10, q11⟩ := pm_mt_at hrow
  obtain ⟨v, τ, hcv⟩ := pm_call3_some h
  rw [hcv] at h
  obtain ⟨hle, hMet, -, hrc⟩ := hcall a av σ v τ hcv row hrow
  obtain ⟨kk, As, hav⟩ := hrc hkd
  obtain ⟨hst, hlen⟩ := pm_take_eq _ _ _ _ _ ht
  obtain ⟨g1, g2, g3⟩ := q4 hkd
  refine pm_Wsz (fun hz => ?_)
  have hsz := pm_exact hs hG hz
  have hn : (As.map (pm_tv s0 od)).length = row.2.2.2.2.2.1 - 1 := by
    rw [hav] at hlen
    simp at hlen
    rw [List.length_map]
    omega
  rw [hkd] at q8
  have hcat := pm_cat2 s0 od rest
  have h9 : st.map (pm_tv s0 od) = (As.map (pm_tv s0 od)).reverse ++ .ref (s0 + kk) :: rest.map (pm_tv s0 od) := by
    have h9 : st = As.reverse ++ (.ref kk :: rest) := by
      have h8 : av.reverse ++ rest = st := hst
      rw [← h8, hav]
      simp
    rw [h9]
    simp
    rfl
  rw [g3] at q1 hMet
  have hgood : GoodIn pm_gt (Cond.code row.1 row.2.1 row.2.2.1 none :: pm_gt) := by
    have := pm_goodIn (m := row) (by rw [g3]; exact q1)
    rw [g3] at this
    exact this
  cases nest with
  | false =>
    have cb : CallB R s args (pm_cn M.1) idx row.1 row.2.1 row.2.2.1 none (Cond.code row.1 row.2.1 row.2.2.1 none :: pm_gt) { frames := d0, cells := τ.length - σ.length, slots := pm_sz τ - pm_sz σ, locals := 40 * d0 } (τ.length - σ.length) (pm_sz τ - pm_sz σ) (row.2.2.2.2.2.1 - 1) := callB_of (row.2.2.2.2.2.1 - 1) hts hgood rfl rfl rfl (hts _ q5) (hts _ (hl1 rfl)) ⟨q6.1, q6.2, q8⟩ ⟨hRd.1, by show 8 + (row.2.2.1 + 11) + 40 * d0 ≤ R.locals; omega⟩
    exact pm_after (rest := rest) hG hle (va_runI (b := s0 + kk) (As := As.map (pm_tv s0 od)) (rest := rest.map (pm_tv s0 od)) ⟨hx, hb, hml, hown, hts⟩ hMet ⟨cb, g2, hts _ g1⟩ ⟨pm_blind, fun U hU hW => ⟨by rw [hav]; rfl, pm_wd hE2 hG hsz hU hW⟩⟩ rfl hn hL.1.1 h9 (lv_room (by omega)) hdg (pm_roomC hG hle (pm_call3_le hmono h) hRr)) h hk
  | true =>
    have cb : va_CN R s args (pm_cn M.1) idx row.1 "EggsLast" row.2.1 row.2.2.1 none (Cond.code row.1 row.2.1 row.2.2.1 none :: pm_gt) { frames := d0, cells := τ.length - σ.length, slots := pm_sz τ - pm_sz σ, locals := 40 * d0 } (τ.length - σ.length) (pm_sz τ - pm_sz σ) (row.2.2.2.2.2.1 - 1) := va_cnB (row.2.2.2.2.2.1 - 1) hts hgood rfl rfl rfl (hW0.2.2.2.1 _ (hl2 rfl) rfl) (hts _ q5) ⟨q6.1, q6.2, q8⟩ ⟨hRd.1, by show 8 + (row.2.2.1 + 11) + 40 * d0 ≤ R.locals; omega⟩
    exact pm_after (rest := rest) hG hle (va_runIN (b := s0 + kk) (As := As.map (pm_tv s0 od)) (rest := rest.map (pm_tv s0 od)) ⟨hx, hb, hml, hown, hts⟩ hMet ⟨cb, g2, hts _ g1⟩ ⟨pm_blind, fun U hU hW => ⟨by rw [hav]; rfl, pm_wd hE2 hG hsz hU hW⟩⟩ rfl hn hL.1.1 h9 (lv_room (by omega)) hdg (pm_roomC hG hle (pm_call3_le hmono h) hRr)) h hk
end PS4
