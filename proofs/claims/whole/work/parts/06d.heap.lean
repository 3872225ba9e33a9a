theorem pm_all {β : Type} {f : Nat → List β} {P : Nat → β → Bool} (h : (List.range 15).all (fun own => (f own).all (P own)) = true) {own : Nat} (ho : own < 15) {x : β} (hx : x ∈ f own) : P own x = true := List.all_eq_true.mp (List.all_eq_true.mp h own (List.mem_range.mpr ho)) x hx
/-- a field's link -/
theorem pm_fl_at {own idx ci k isr pos : Nat} {nest fin : Bool} (ho : own < 15) (hf : pm_find (pm_fl own) idx = some (ci, k, nest, isr, fin, pos)) : ∃ r : vw_C, pm_cl[ci]? = some r ∧ k < r.2.2 ∧ (r.2.1 k).1 = r.1 ∧ (r.2.1 k).2.2.2 = fin ∧ (∃ ty, parseFieldDescriptor (r.2.1 k).2.2.1 = some ty ∧ ((isr = 0 ∧ ty = .int) ∨ (isr = 1 ∧ ∀ a, fits ty (.ref a) = true ∧ narrow ty (.ref a) = .ref a))) ∧ (nest = true → Cond.fieldLinkNest (pm_cn own) idx (r.2.1 k).1 (r.2.1 k).2.1 (r.2.1 k).2.2.1 "EggsLast" ∈ lw_tbl) ∧ (nest = false → Cond.fieldLink (pm_cn own) idx (r.2.1 k).1 (r.2.1 k).2.1 (r.2.1 k).2.2.1 ∈ pm_gt) := by
  have h := pm_all (P := pm_flW) pm_fl_ok ho (pm_find_mem hf)
  unfold pm_flW at h
  dsimp only at h
  cases hr : pm_cl[ci]? with
  | none => rw [hr] at h; cases h
  | some r =>
    rw [hr] at h
    simp only [Bool.and_eq_true, decide_eq_true_eq] at h
    obtain ⟨⟨⟨⟨h1, h2⟩, h3⟩, h4⟩, h5⟩ := h
    refine ⟨r, rfl, h1, h2, h3, ?_, fun hn => ?_, fun hn => ?_⟩
    · cases hp : parseFieldDescriptor (r.2.1 k).2.2.1 with
      | none => rw [hp] at h4; cases h4
      | some ty =>
        rw [hp] at h4
        refine ⟨ty, rfl, ?_⟩
        cases ty <;> simp at h4
        · exact Or.inl ⟨h4, rfl⟩
        · exact Or.inr ⟨h4, fun _ => ⟨rfl, rfl⟩⟩
        · exact Or.inr ⟨h4, fun _ => ⟨rfl, rfl⟩⟩
    · subst hn
      simp at h5
      exact List.mem_of_getElem? h5
    · subst hn
      exact pm_at_in h5
theorem pm_okF_at {own idx a b d : Nat} (h : pm_okF own idx a b d = true) : ∃ nest fin pos, pm_find (pm_fl own) idx = some (a, b, nest, d, fin, pos) := by
  unfold pm_okF at h
  split at h
  · rename_i ci k nest isr fin pos hf
    simp only [Bool.and_eq_true, decide_eq_true_eq] at h
    obtain ⟨⟨rfl, rfl⟩, rfl⟩ := h
    exact ⟨nest, fin, pos, hf⟩
  · cases h
theorem pm_cl_nm {a : Nat} {rr : vw_C} (hrr : pm_cl[a]? = some rr) : rr.1 = pm_cn a ∧ a < 9 := by
  match a, hrr with
  | 0, h => cases h; exact ⟨rfl, by omega⟩
  | 1, h => cases h; exact ⟨rfl, by omega⟩
  | 2, h => cases h; exact ⟨rfl, by omega⟩
  | 3, h => cases h; exact ⟨rfl, by omega⟩
  | 4, h => cases h; exact ⟨rfl, by omega⟩
  | 5, h => cases h; exact ⟨rfl, by omega⟩
  | 6, h => cases h; exact ⟨rfl, by omega⟩
  | 7, h => cases h; exact ⟨rfl, by omega⟩
  | 8, h => cases h; exact ⟨rfl, by omega⟩
  | n + 9, h => simp [pm_cl] at h
section PS2
variable {D : va_G} {s0 : Nat} {od : Nat → Nat} {tid : Nat → ClassId} {L : Nat} {xs : Nat → Int32}
variable {p : Program} {l : Launch} {e : Env} {R : Room} {s : State} {m : MethodId} {args : Array Value} {below : List Frame} {meth : Method} {c : Code} {H : Heap} {locs : List Loc} {cells slots : Nat} {Q : State → Prop}
variable {M : pm_M} {bytes : ByteArray} {maxL : Nat} {ini : Bool} {L0 Z0 : Nat} {r : pm_R} {pc : Nat} {LS : Array Slot} {st : List Value} {σ : pm_H}
set_option maxHeartbeats 1000000 in
theorem pm_s_get (hE : pm_E D s0 od tid L xs p s m args meth c M bytes maxL ini L0 R) {idx a b d : Nat} (hf : pm_okF M.1 idx a b d = true) (hG : pm_G D s0 od tid s L0 Z0 σ H locs cells slots) (hdg : decode bytes pc = .ok (.getfield idx, 3)) {k : List Value → Option pm_R} (h : pm_getf a b d st σ k = some r) (hk : ∀ st9, k st9 = some r → W p l e R s m args below meth c H locs cells slots Q (F0 m (pc + 3) LS (st9.map (pm_tv s0 od)))) : W p l e R s m args below meth c H locs cells slots Q (F0 m pc LS (st.map (pm_tv s0 od))) := by
  obtain ⟨hx, hb, hml, hown, hts, hW0, hs, hin, ho, hco, hfr, hlo⟩ := hE
  obtain ⟨nest, fin, pos, hfl⟩ := pm_okF_at hf
  obtain ⟨rr, hrr, hkn, hdc, -, -, hn1, hn2⟩ := pm_fl_at ho hfl
  obtain ⟨hin1, -, -⟩ := pm_CI_ok _ _ hrr
  have go : ∀ (o : Nat) (t : List Value) (fs : List Value) (v : Value), σ[o]? = some (.inr (a, fs)) → fs[b]? = some v → k (v :: t) = some r → W p l e R s m args below meth c H locs cells slots Q (F0 m pc LS (Value.ref (s0 + o) :: t.map (pm_tv s0 od))) := by
    intro o t fs v h1 h2 h3
    have he : (pm_ws s0 od tid σ)[o]? = some (s0 + o, .inr (a, fs.map (pm_tv s0 od))) := pm_ws_at (e := .inr (a, fs)) h1
    have hv : (fs.map (pm_tv s0 od))[b]? = some (pm_tv s0 od v) := by rw [List.getElem?_map, h2]; rfl
    cases nest with
    | false => exact va_get (C := rr.1) (T := rr.2.1) (N := rr.2.2) (ref := (rr.2.1 b).1) hx hb hts hin1 hown hW0.1 hG.1 o he hrr b hkn (hts _ (hn2 rfl)) (fun _ h9 => h9) hv hdg (hk _ h3)
    | true => exact va_getN (C := rr.1) (T := rr.2.1) (N := rr.2.2) (ref := (rr.2.1 b).1) (host := "EggsLast") hx hb hts hin1 hown hW0.1 hG.1 o he hrr b hkn (va_Nw.use rfl (hW0.2.2.2.1 _ (hn1 rfl) rfl)) (fun _ h9 => h9) hv hdg (hk _ h3)
  unfold pm_getf at h
  split at h
  · rename_i o t
    split at h
    · obtain ⟨x, hx1, h3⟩ := pm_bind_I h
      obtain ⟨fs, h1, h2⟩ := pm_gI_I hx1
      exact go o t fs _ h1 h2 h3
    · obtain ⟨x, hx1, h3⟩ := pm_bind_I h
      obtain ⟨fs, h1, h2⟩ := pm_gR_I hx1
      exact go o t fs _ h1 h2 h3
  · cases h
set_option maxHeartbeats 1000000 in
theorem pm_s_put (hE : pm_E D s0 od tid L xs p s m args meth c M bytes maxL ini L0 R) {idx a b d : Nat} (hf : pm_okF M.1 idx a b d = true) (hp : pm_okP M.1 idx ini = true) (hG : pm_G D s0 od tid s L0 Z0 σ H locs cells slots) (hdg : decode bytes pc = .ok (.putfield idx, 3)) {k : List Value → pm_H → Option pm_R} (h : pm_putf a b d st σ k = some r) (hk : ∀ st9 σ9 H9 locs9, k st9 σ9 = some r → pm_G D s0 od tid s L0 Z0 σ9 H9 locs9 cells slots → W p l e R s m args below meth c H9 locs9 cells slots Q (F0 m (pc + 3) LS (st9.map (pm_tv s0 od)))) : W p l e R s m args below meth c H locs cells slots Q (F0 m pc LS (st.map (pm_tv s0 od))) := by
  obtain ⟨hx, hb, hml, hown, hts, hW0, hs, hini, ho, hco, hfr, hlo⟩ := hE
  obtain ⟨nest, fin, pos, hfl⟩ := pm_okF_at hf
  obtain ⟨rr, hrr, hkn, hdc, hfin, ⟨ty, hty, hfit⟩, hn1, hn2⟩ := pm_fl_at ho hfl
  obtain ⟨hin1, ⟨ty0, hty0⟩, hnm⟩ := pm_CI_ok _ _ hrr
  have go : ∀ (o : Nat) (t : List Value) (v : Value) (τ : pm_H), narrow ty (pm_tv s0 od v) = pm_tv s0 od v → fits ty (pm_tv s0 od v) = true → pm_pf σ o a b v = some τ → k t τ = some r → W p l e R s m args below meth c H locs cells slots Q (F0 m pc LS (pm_tv s0 od v :: Value.ref (s0 + o) :: t.map (pm_tv s0 od))) := by
    intro o t v τ hnv hfv h1 h3
    obtain ⟨fs, g1, h2, rfl⟩ := pm_pf_I h1
    have he : (pm_ws s0 od tid σ)[o]? = some (s0 + o, .inr (a, fs.map (pm_tv s0 od))) := pm_ws_at (e := .inr (a, fs)) g1
    have fin2 : ∀ (H1 : Heap) (locs1 : List Loc), va_P D pm_cl ((pm_ws s0 od tid σ).set o (s0 + o, .inr (a, (fs.map (pm_tv s0 od)).set b (pm_tv s0 od v)))) H1 → va_S (pm_A s0) s.heap H1 locs1 → W p l e R s m args below meth c H1 locs1 cells slots Q (F0 m (pc + 3) LS (t.map (pm_tv s0 od))) := by
      intro H1 locs1 hP1 hS1
      refine hk _ _ _ _ h3 (hG.set (e := .inr (a, fs.set b v)) g1 (by simp [pm_s1]) ?_ hS1)
      have e9 : pm_te s0 od tid (.inr (a, fs.set b v)) = .inr (a, (fs.map (pm_tv s0 od)).set b (pm_tv s0 od v)) := by
        show Sum.inr (a, (fs.set b v).map (pm_tv s0 od)) = _
        rw [List.map_set]
      rw [e9]
      exact hP1
    unfold pm_okP at hp
    rw [hfl] at hp
    cases fin with
    | false =>
      cases nest with
      | false => exact va_put (C := rr.1) (T := rr.2.1) (N := rr.2.2) (ref := (rr.2.1 b).1) hx hb hts hin1 ty0 hty0 hnm hown hW0.1 hG.1 (pm_ws_D σ) hG.2.1 o he hrr b hkn (hts _ (hn2 rfl)) (fun _ h9 => h9) hfin hty hnv hfv (by simpa using h2) hdg (fun H1 locs1 hP1 _ hS1 => fin2 H1 locs1 hP1 hS1)
      | true => exact va_putN (C := rr.1) (T := rr.2.1) (N := rr.2.2) (ref := (rr.2.1 b).1) (host := "EggsLast") hx hb hts hin1 ty0 hty0 hnm hown hW0.1 hG.1 (pm_ws_D σ) hG.2.1 o he hrr b hkn (va_Nw.use rfl (hW0.2.2.2.1 _ (hn1 rfl) rfl)) (fun _ h9 => h9) hfin hty hnv hfv (by simpa using h2) hdg (fun H1 locs1 hP1 _ hS1 => fin2 H1 locs1 hP1 hS1)
    | true =>
      simp only [Bool.not_true, Bool.false_or, Bool.and_eq_true, decide_eq_true_eq, Bool.not_eq_true'] at hp
      obtain ⟨⟨hi9, ho9⟩, hne⟩ := hp
      subst hne
      have hcls : rr.1 = pm_cn M.1 := by rw [← ho9]; exact (pm_cl_nm hrr).1
      exact va_putF (C := rr.1) (T := rr.2.1) (N := rr.2.2) (ref := (rr.2.1 b).1) hx hb hts hin1 ty0 hty0 hnm hown hW0.1 hG.1 (pm_ws_D σ) hG.2.1 o he hrr b hkn (hts _ (hn2 rfl)) (fun _ h9 => h9) hfin (hini hi9) (hdc.trans hcls) hty hnv hfv (by simpa using h2) hdg (fun H1 locs1 hP1 _ hS1 => fin2 H1 locs1 hP1 hS1)
  unfold pm_putf at h
  split at h
  · rename_i x o t
    obtain ⟨τ, hx1, h3⟩ := pm_bind_I h
    rcases hfit with ⟨-, rfl⟩ | ⟨h9, -⟩
    · exact go o t (.int x) τ rfl rfl hx1 h3
    · cases h9
  · rename_i x o t
    obtain ⟨τ, hx1, h3⟩ := pm_bind_I h
    rcases hfit with ⟨h9, -⟩ | ⟨-, h9⟩
    · cases h9
    · exact go o t (.ref x) τ (h9 _).2 (h9 _).1 hx1 h3
  · cases h
theorem pm_s_gets (hE : pm_E D s0 od tid L xs p s m args meth c M bytes maxL ini L0 R) {idx a : Nat} (hf : (match pm_find (pm_sl M.1) idx with
      | some z => decide (z.1 = a)
      | none => false) = true) (hG : pm_G D s0 od tid s L0 Z0 σ H locs cells slots) (hdg : decode bytes pc = .ok (.getstatic idx, 3)) (hk : W p l e R s m args below meth c H locs cells slots Q (F0 m (pc + 3) LS ((Value.retAddr a :: st).map (pm_tv s0 od)))) : W p l e R s m args below meth c H locs cells slots Q (F0 m pc LS (st.map (pm_tv s0 od))) := by
  obtain ⟨hx, hb, hml, hown, hts, hW0, hs, hini, ho, hco, hfr, hlo⟩ := hE
  split at hf
  · rename_i z hz
    simp only [decide_eq_true_eq] at hf
    subst hf
    have h9 := pm_all (P := fun (own : Nat) (e : Nat × Nat × Nat) => decide (1 ≤ e.2.1) && decide (e.2.1 ≤ 3) && pm_at e.2.2 (.fieldLink (pm_cn own) e.1 (pm_sn e.2.1).1 (pm_sn e.2.1).2 "[I")) pm_sl_ok ho (pm_find_mem hz)
    simp only [Bool.and_eq_true, decide_eq_true_eq] at h9
    obtain ⟨⟨g1, g2⟩, g3⟩ := h9
    exact va_gets hx hb (hW0.2.2.1 z.1 g1 g2) hG.2.1 hown (hts _ (pm_at_in g3)) (fun _ h => h) hdg hk
  · cases hf
theorem pm_oldat (hE : pm_E D s0 od tid L xs p s m args meth c M bytes maxL ini L0 R) {j n : Nat} {f : Nat → Int32} (h : pm_od L xs j = some (n, f)) : pm_X (od j) n f s s.heap ∧ od j < s.heap.size ∧ ¬ pm_A s0 (od j) := by
  obtain ⟨hx, hb, hml, hown, hts, hW0, hs, hini, ho, hco, hfr, hlo⟩ := hE
  obtain ⟨h1, h2⟩ := hW0.2.1 j n f h
  exact ⟨h1, by omega, by show ¬ s0 ≤ od j; omega⟩
theorem pm_s_iald (hE : pm_E D s0 od tid L xs p s m args meth c M bytes maxL ini L0 R) (hG : pm_G D s0 od tid s L0 Z0 σ H locs cells slots) (hdg : decode bytes pc = .ok (.iaload, 1)) {k : List Value → Option pm_R} (h : pm_iald (pm_od L xs) st σ k = some r) (hk : ∀ st9, k st9 = some r → W p l e R s m args below meth c H locs cells slots Q (F0 m (pc + 1) LS (st9.map (pm_tv s0 od)))) : W p l e R s m args below meth c H locs cells slots Q (F0 m pc LS (st.map (pm_tv s0 od))) := by
  have hE2 := hE
  obtain ⟨hx, hb, hml, hown, hts, hW0, hs, hini, ho, hco, hfr, hlo⟩ := hE
  unfold pm_iald at h
  split at h
  · obtain ⟨x, hx1, h3⟩ := pm_bind_I h
    obtain ⟨n, f, h1, h2, rfl⟩ := pm_rd_I hx1
    exact va_iald hx hb hW0.1 hG.1 _ 0 (pm_ws_at h1) rfl h2 hdg (hk _ h3)
  · rename_i i j t
    obtain ⟨x, hx1, h3⟩ := pm_bind_I h
    unfold pm_ro at hx1
    split at hx1
    · rename_i n f hj
      split at hx1
      · rename_i hi
        cases hx1
        obtain ⟨g1, g2, g3⟩ := pm_oldat hE2 hj
        obtain ⟨cell, k1, k2, k3, k4, k5, k6⟩ := g1
        have hlt : i.toNatClampNeg < n := Nat.not_le.mp fun q => hi (Or.inr q)
        exact W.iald (v := .int (f i.toNatClampNeg)) hx hb (by rw [hG.2.1.2.1 _ g2 g3]; exact k1) k2 k3 (fun q => q.elim (fun q => hi (Or.inl q)) (fun q => by omega)) (k6 _ hlt) rfl rfl hdg (hk _ h3)
      · cases hx1
    · cases hx1
  · cases h
theorem pm_s_zald (hE : pm_E D s0 od tid L xs p s m args meth c M bytes maxL ini L0 R) (hG : pm_G D s0 od tid s L0 Z0 σ H locs cells slots) (hdg : decode bytes pc = .ok (.baload, 1)) {k : List Value → Option pm_R} (h : pm_zald st σ k = some r) (hk : ∀ st9, k st9 = some r → W p l e R s m args below meth c H locs cells slots Q (F0 m (pc + 1) LS (st9.map (pm_tv s0 od)))) : W p l e R s m args below meth c H locs cells slots Q (F0 m pc LS (st.map (pm_tv s0 od))) := by
  obtain ⟨hx, hb, hml, hown, hts, hW0, hs, hini, ho, hco, hfr, hlo⟩ := hE
  unfold pm_zald at h
  split at h
  · obtain ⟨x, hx1, h3⟩ := pm_bind_I h
    obtain ⟨n, f, h1, h2, rfl⟩ := pm_rd_I hx1
    exact va_zald hx hb hW0.1 hG.1 _ 1 (pm_ws_at h1) rfl h2 hdg (hk _ h3)
  · cases h
theorem pm_s_aald (hE : pm_E D s0 od tid L xs p s m args meth c M bytes maxL ini L0 R) (hG : pm_G D s0 od tid s L0 Z0 σ H locs cells slots) (hdg : decode bytes pc = .ok (.aaload, 1)) {k : List Value → Option pm_R} (h : pm_aald st σ k = some r) (hk : ∀ st9, k st9 = some r → W p l e R s m args below meth c H locs cells slots Q (F0 m (pc + 1) LS (st9.map (pm_tv s0 od)))) : W p l e R s m args below meth c H locs cells slots Q (F0 m pc LS (st.map (pm_tv s0 od))) := by
  obtain ⟨hx, hb, hml, hown, hts, hW0, hs, hini, ho, hco, hfr, hlo⟩ := hE
  unfold pm_aald at h
  split at h
  · rename_i i q t
    obtain ⟨x, hx1, h3⟩ := pm_bind_I h
    obtain ⟨c9, n, f, h1, h2, h4, h5⟩ := pm_rdA_I hx1
    have ha : (pm_ws s0 od tid σ)[q]? = some (s0 + q, .inl (tid c9, n, .inr (.inr (.inr (.inr fun j => (f j).map fun k => s0 + k))))) := pm_ws_at h1
    have hlt : i.toNatClampNeg < n := Nat.not_le.mp fun q => h4 (Or.inr q)
    have hv : va_rf ((f i.toNatClampNeg).map fun k => s0 + k) = pm_tv s0 od (.ref x) := by rw [h5]; rfl
    have hgo := hk _ h3
    rw [List.map_cons, ← hv] at hgo
    rcases h2 with rfl | rfl
    · exact va_aldq hx hb hW0.1 hG.1 _ 2 ha rfl h4 hdg hgo
    · exact W.aald (v := va_rf ((f i.toNatClampNeg).map fun k => s0 + k)) (ty := .array .int) hx hb (hG.1 q _ ha) ((hW0.1.2 3 _ rfl).1 n (fun j => va_rf ((f j).map fun k => s0 + k))) rfl (fun q => by cases q) (by show ¬ (i < 0 ∨ (arrV _ _ _).slots.size ≤ _); rw [arrV_size]; exact h4) (by show (arrV _ _ _).slots[_]? = _; rw [arrV_read _ _ hlt]) rfl rfl hdg hgo
  · cases h
theorem pm_s_alen (hE : pm_E D s0 od tid L xs p s m args meth c M bytes maxL ini L0 R) (hG : pm_G D s0 od tid s L0 Z0 σ H locs cells slots) (hdg : decode bytes pc = .ok (.arraylength, 1)) {k : List Value → Option pm_R} (h : pm_alen (pm_od L xs) st σ k = some r) (hk : ∀ st9, k st9 = some r → W p l e R s m args below meth c H locs cells slots Q (F0 m (pc + 1) LS (st9.map (pm_tv s0 od)))) : W p l e R s m args below meth c H locs cells slots Q (F0 m pc LS (st.map (pm_tv s0 od))) := by
  have hE2 := hE
  obtain ⟨hx, hb, hml, hown, hts, hW0, hs, hini, ho, hco, hfr, hlo⟩ := hE
  unfold pm_alen at h
  split at h
  · rename_i q t
    obtain ⟨x, hx1, h3⟩ := pm_bind_I h
    unfold pm_ln at hx1
    split at hx1
    · rename_i c9 n y hq
      split at hx1
      · rename_i hc9
        cases hx1
        have ha : ∃ y' : vp_A, (pm_ws s0 od tid σ)[q]? = some (s0 + q, .inl (tid c9, y')) ∧ y'.1 = n := by
          rcases y with f | f | f | f | f
          · exact ⟨_, pm_ws_at hq, rfl⟩
          · exact ⟨_, pm_ws_at hq, rfl⟩
          · exact ⟨_, pm_ws_at hq, rfl⟩
          · exact ⟨_, pm_ws_at hq, rfl⟩
          · exact ⟨_, pm_ws_at hq, rfl⟩
        obtain ⟨y', ha, hn⟩ := ha
        have hty : ∃ ty, (pm_tys tid)[c9]? = some (tid c9, ty) := by
          have hc8 : (show Nat from c9) < 4 := hc9
          rcases (show (show Nat from c9) = 0 ∨ (show Nat from c9) = 1 ∨ (show Nat from c9) = 2 ∨ (show Nat from c9) = 3 by omega) with h9 | h9 | h9 | h9
          · exact ⟨.int, by rw [show c9 = 0 from h9]; rfl⟩
          · exact ⟨.boolean, by rw [show c9 = 1 from h9]; rfl⟩
          · exact ⟨_, by rw [show c9 = 2 from h9]; rfl⟩
          · exact ⟨_, by rw [show c9 = 3 from h9]; rfl⟩
        obtain ⟨ty, hty⟩ := hty
        exact va_alen hx hb hW0.1 hG.1 _ c9 ha hty (by rw [hn]) hdg (hk _ h3)
      · cases hx1
    · cases hx1
  · rename_i j t
    obtain ⟨x, hx1, h3⟩ := pm_bind_I h
    unfold pm_lo at hx1
    split at hx1
    · rename_i n f hj
      cases hx1
      obtain ⟨g1, g2, g3⟩ := pm_oldat hE2 hj
      obtain ⟨cell, k1, k2, k3, k4, k5, k6⟩ := g1
      exact W.alen (n := Int32.ofNat n) hx hb (by rw [hG.2.1.2.1 _ g2 g3]; exact k1) k2 k5 rfl rfl hdg (hk _ h3)
    · cases hx1
  · cases h
theorem pm_s_iastore (hE : pm_E D s0 od tid L xs p s m args meth c M bytes maxL ini L0 R) (hG : pm_G D s0 od tid s L0 Z0 σ H locs cells slots) (hdg : decode bytes pc = .ok (.iastore, 1)) {k : List Value → pm_H → Option pm_R} (h : pm_iast st σ k = some r) (hk : ∀ st9 σ9 H9 locs9, k st9 σ9 = some r → pm_G D s0 od tid s L0 Z0 σ9 H9 locs9 cells slots → W p l e R s m args below meth c H9 locs9 cells slots Q (F0 m (pc + 1) LS (st9.map (pm_tv s0 od)))) : W p l e R s m args below meth c H locs cells slots Q (F0 m pc LS (st.map (pm_tv s0 od))) := by
  obtain ⟨hx, hb, hml, hown, hts, hW0, hs, hini, ho, hco, hfr, hlo⟩ := hE
  unfold pm_iast at h
  split at h
  · rename_i x i q t
    obtain ⟨τ, hx1, h3⟩ := pm_bind_I h
    obtain ⟨n, f, h1, h2, rfl⟩ := pm_wr_I hx1
    exact va_iast hx hb hW0.1 hG.1 (pm_ws_D σ) hG.2.1 _ 0 (pm_ws_at h1) rfl h2 hdg (fun H1 locs1 hP1 _ hS1 => hk _ _ _ _ h3 (hG.set (e := .inl (0, n, .inl (upd f i.toNatClampNeg x))) h1 rfl hP1 hS1))
  · cases h
theorem pm_s_bastore (hE : pm_E D s0 od tid L xs p s m args meth c M bytes maxL ini L0 R) (hG : pm_G D s0 od tid s L0 Z0 σ H locs cells slots) (hdg : decode bytes pc = .ok (.bastore, 1)) {k : List Value → pm_H → Option pm_R} (h : pm_zast st σ k = some r) (hk : ∀ st9 σ9 H9 locs9, k st9 σ9 = some r → pm_G D s0 od tid s L0 Z0 σ9 H9 locs9 cells slots → W p l e R s m args below meth c H9 locs9 cells slots Q (F0 m (pc + 1) LS (st9.map (pm_tv s0 od)))) : W p l e R s m args below meth c H locs cells slots Q (F0 m pc LS (st.map (pm_tv s0 od))) := by
  obtain ⟨hx, hb, hml, hown, hts, hW0, hs, hini, ho, hco, hfr, hlo⟩ := hE
  unfold pm_zast at h
  split at h
  · rename_i x i q t
    obtain ⟨τ, hx1, h3⟩ := pm_bind_I h
    obtain ⟨n, f, h1, h2, rfl⟩ := pm_wr_I hx1
    exact va_zast hx hb hW0.1 hG.1 (pm_ws_D σ) hG.2.1 _ 1 (pm_ws_at h1) rfl h2 hdg (fun H1 locs1 hP1 _ hS1 => hk _ _ _ _ h3 (hG.set (e := .inl (1, n, .inl (upd f i.toNatClampNeg (vp_nar .boolean x)))) h1 rfl hP1 hS1))
  · cases h
theorem pm_s_aastore (hE : pm_E D s0 od tid L xs p s m args meth c M bytes maxL ini L0 R) (hG : pm_G D s0 od tid s L0 Z0 σ H locs cells slots) (hdg : decode bytes pc = .ok (.aastore, 1)) {k : List Value → pm_H → Option pm_R} (h : pm_aast st σ k = some r) (hk : ∀ st9 σ9 H9 locs9, k st9 σ9 = some r → pm_G D s0 od tid s L0 Z0 σ9 H9 locs9 cells slots → W p l e R s m args below meth c H9 locs9 cells slots Q (F0 m (pc + 1) LS (st9.map (pm_tv s0 od)))) : W p l e R s m args below meth c H locs cells slots Q (F0 m pc LS (st.map (pm_tv s0 od))) := by
  obtain ⟨hx, hb, hml, hown, hts, hW0, hs, hini, ho, hco, hfr, hlo⟩ := hE
  unfold pm_aast at h
  split at h
  · rename_i x i q t
    obtain ⟨τ, hx1, h3⟩ := pm_bind_I h
    obtain ⟨n, f, fs, h1, h1v, h2, rfl⟩ := pm_wrA_I hx1
    have ha : (pm_ws s0 od tid σ)[q]? = some (s0 + q, .inl (tid 2, n, .inr (.inr (.inr (.inr fun j => (f j).map fun k => s0 + k))))) := pm_ws_at h1
    have hv : (pm_ws s0 od tid σ)[x]? = some (s0 + x, .inr (4, fs.map (pm_tv s0 od))) := pm_ws_at (e := .inr (4, fs)) h1v
    refine va_astq (r := ("EggsLast$Shop", F_Shop, 12)) hx hb hW0.1 hG.1 (pm_ws_D σ) hG.2.1 _ 2 _ 4 ha rfl hv rfl h2 hdg (fun H1 locs1 hP1 _ hS1 => hk _ _ _ _ h3 (hG.set (e := .inl (2, n, .inr (.inr (.inr (.inr (va_up f i.toNatClampNeg (some x))))))) h1 rfl ?_ hS1))
    have e9 : (fun j => ((va_up f i.toNatClampNeg (some x)) j).map fun k => s0 + k) = va_up (fun j => (f j).map fun k => s0 + k) i.toNatClampNeg (some (s0 + x)) := by
      funext j
      unfold va_up
      by_cases hj : j = i.toNatClampNeg <;> simp [hj]
    show va_P D pm_cl ((pm_ws s0 od tid σ).set q (s0 + q, .inl (tid 2, n, .inr (.inr (.inr (.inr (fun j => ((va_up f i.toNatClampNeg (some x)) j).map fun k => s0 + k))))))) H1
    rw [e9]
    exact hP1
  · cases h
end PS2
