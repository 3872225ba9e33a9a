/-! calls of Object's constructor, arraycopy, max, min; then every instruction -/
section PS5
variable {D : va_G} {s0 : Nat} {od : Nat → Nat} {tid : Nat → ClassId} {L : Nat} {xs : Nat → Int32}
variable {p : Program} {l : Launch} {e : Env} {R : Room} {s : State} {m : MethodId} {args : Array Value} {below : List Frame} {meth : Method} {c : Code} {H : Heap} {locs : List Loc} {cells slots : Nat} {Q : State → Prop}
variable {M : pm_M} {bytes : ByteArray} {maxL : Nat} {ini : Bool} {L0 Z0 : Nat} {r : pm_R} {pc : Nat} {LS : Array Slot} {st : List Value} {σ : pm_H} {ls : pm_L} {call : Nat → List Value → pm_H → Option pm_R} {d0 : Nat}
theorem pm_isSome_at {β : Type} {o : Option β} (h : o.isSome = true) : ∃ x, o = some x := by
  cases o with
  | none => cases h
  | some x => exact ⟨x, rfl⟩
theorem pm_ble {n : Nat} (h : Nat.ble n 4 = true) : n ≤ 4 := Nat.le_of_ble_eq_true h
theorem pm_ble8 {n : Nat} (h : Nat.ble n 8 = true) : n ≤ 8 := Nat.le_of_ble_eq_true h
set_option maxHeartbeats 2000000 in
theorem pm_s_invokespecial (hE : pm_E D s0 od tid L xs p s m args meth c M bytes maxL ini L0 R) {idx a b d : Nat} (hf : (match d with
      | 3 => (pm_find (pm_ol M.1) idx).isSome
      | d => pm_okM M.1 idx a b d 2) = true) (hL : pm_Rel s0 od maxL M.2.2.1 ls LS) (hG : pm_G D s0 od tid s L0 Z0 σ H locs cells slots) (hcall : pm_Calls l D s0 od tid L xs call d0) (hRd : d0 + 1 ≤ R.frames ∧ 40 * (d0 + 1) ≤ R.locals) (hdg : decode bytes pc = .ok (.invokespecial idx, 3)) {k : List Value → pm_H → Option pm_R} (hmono : ∀ st τ, k st τ = some r → pm_le τ r.2) (hRr : r.2.length ≤ R.cells + L0 ∧ pm_sz r.2 ≤ R.slots + Z0) (h : pm_inv call a b d st σ k = some r) (hk : ∀ st9 σ9 H9 locs9 c9 s9, k st9 σ9 = some r → pm_G D s0 od tid s L0 Z0 σ9 H9 locs9 c9 s9 → W p l e R s m args below meth c H9 locs9 c9 s9 Q (F0 m (pc + 3) LS (st9.map (pm_tv s0 od)))) : W p l e R s m args below meth c H locs cells slots Q (F0 m pc LS (st.map (pm_tv s0 od))) := by
  by_cases h3 : d = 3
  · subst h3
    obtain ⟨z, hz⟩ := pm_isSome_at hf
    obtain ⟨hx, hb, hml, hown, hts, hW0, hs, hini, ho, hco, hfr, hlo⟩ := hE
    have hw := pm_at_in (pm_all (P := fun (own : Nat) (e : Nat × Nat) => pm_at e.2 (.methodLink (pm_cn own) e.1 objectInit)) pm_ol_ok ho (pm_find_mem hz))
    replace h : (match (generalizing := false) st with
      | .ref _ :: r9 => match Nat.ble r9.length 4 with
        | true => k r9 σ
        | false => none
      | _ => none) = some r := h
    split at h
    · rename_i o t
      split at h
      · rename_i hle
        have hcat := pm_cat s0 od t
        have hle := pm_ble hle
        have hroom := lv_room (m := m) (pc := pc) (ls := LS) (rest := []) (st := t.map (pm_tv s0 od)) (by omega)
        refine W.objInit hx hb hown (hts _ hw) (hts _ (pm_at_in (i := 79) (by decide +kernel))) (hts _ (pm_at_in (i := 80) (by decide +kernel))) rfl (by rw [hml]; exact hL.1.1) rfl hdg hfr ?_ (hk _ _ _ _ _ _ h hG)
        have e9 : (F0 m pc LS (List.map (pm_tv s0 od) (Value.ref o :: t))).monitorRoom = (F0 m pc LS []).monitorRoom := rfl
        rw [e9]
        omega
      · cases h
    · cases h
  · have hf : pm_okM M.1 idx a b d 2 = true := by
      split at hf
      · exact absurd rfl h3
      · exact hf
    obtain ⟨_, _, _, _, _, _, hd2, _⟩ := pm_okM_at hE.2.2.2.2.2.2.2.2.1 hf
    replace h : (match (generalizing := false) pm_take b [] st with
      | some (av, r9) => match Nat.ble (pm_cw r9) 8 with
        | true => pm_call3 d (call a av σ) k r9
        | false => none
      | none => none) = some r := by
      rcases (show d = 0 ∨ d = 1 ∨ d = 2 by omega) with rfl | rfl | rfl <;> exact h
    split at h
    · rename_i av t ht
      split at h
      · rename_i hle
        exact pm_s_callI hE hf hL hG hcall hRd hdg hmono hRr ht (pm_ble8 hle) h hk
      · cases h
    · cases h
set_option maxHeartbeats 2000000 in
theorem pm_s_invokevirtual (hE : pm_E D s0 od tid L xs p s m args meth c M bytes maxL ini L0 R) {idx a b d : Nat} (hf : pm_okM M.1 idx a b d 1 = true) (hL : pm_Rel s0 od maxL M.2.2.1 ls LS) (hG : pm_G D s0 od tid s L0 Z0 σ H locs cells slots) (hcall : pm_Calls l D s0 od tid L xs call d0) (hRd : d0 + 1 ≤ R.frames ∧ 40 * (d0 + 1) ≤ R.locals) (hdg : decode bytes pc = .ok (.invokevirtual idx, 3)) {k : List Value → pm_H → Option pm_R} (hmono : ∀ st τ, k st τ = some r → pm_le τ r.2) (hRr : r.2.length ≤ R.cells + L0 ∧ pm_sz r.2 ≤ R.slots + Z0) (h : pm_inv call a b d st σ k = some r) (hk : ∀ st9 σ9 H9 locs9 c9 s9, k st9 σ9 = some r → pm_G D s0 od tid s L0 Z0 σ9 H9 locs9 c9 s9 → W p l e R s m args below meth c H9 locs9 c9 s9 Q (F0 m (pc + 3) LS (st9.map (pm_tv s0 od)))) : W p l e R s m args below meth c H locs cells slots Q (F0 m pc LS (st.map (pm_tv s0 od))) := by
  obtain ⟨_, _, _, _, _, _, hd2, _⟩ := pm_okM_at hE.2.2.2.2.2.2.2.2.1 hf
  replace h : (match (generalizing := false) pm_take b [] st with
    | some (av, r9) => match Nat.ble (pm_cw r9) 8 with
      | true => pm_call3 d (call a av σ) k r9
      | false => none
    | none => none) = some r := by
    rcases (show d = 0 ∨ d = 1 ∨ d = 2 by omega) with rfl | rfl | rfl <;> exact h
  split at h
  · rename_i av t ht
    split at h
    · rename_i hle
      exact pm_s_callV hE hf hL hG hcall hRd hdg hmono hRr ht (pm_ble8 hle) h hk
    · cases h
  · cases h
set_option maxHeartbeats 2000000 in
theorem pm_s_invokestatic (hE : pm_E D s0 od tid L xs p s m args meth c M bytes maxL ini L0 R) {idx a b d : Nat} (hf : (match d with
      | 4 => (pm_find (pm_al M.1) idx).isSome
      | 5 => (pm_find (pm_xl M.1) idx).isSome
      | 6 => (pm_find (pm_yl M.1) idx).isSome
      | d => pm_okM M.1 idx a b d 0) = true) (hL : pm_Rel s0 od maxL M.2.2.1 ls LS) (hG : pm_G D s0 od tid s L0 Z0 σ H locs cells slots) (hcall : pm_Calls l D s0 od tid L xs call d0) (hRd : d0 + 1 ≤ R.frames ∧ 40 * (d0 + 1) ≤ R.locals) (hdg : decode bytes pc = .ok (.invokestatic idx, 3)) {k : List Value → pm_H → Option pm_R} (hmono : ∀ st τ, k st τ = some r → pm_le τ r.2) (hRr : r.2.length ≤ R.cells + L0 ∧ pm_sz r.2 ≤ R.slots + Z0) (h : pm_inv call a b d st σ k = some r) (hk : ∀ st9 σ9 H9 locs9 c9 s9, k st9 σ9 = some r → pm_G D s0 od tid s L0 Z0 σ9 H9 locs9 c9 s9 → W p l e R s m args below meth c H9 locs9 c9 s9 Q (F0 m (pc + 3) LS (st9.map (pm_tv s0 od)))) : W p l e R s m args below meth c H locs cells slots Q (F0 m pc LS (st.map (pm_tv s0 od))) := by
  by_cases h4 : d = 4
  · subst h4
    obtain ⟨z, hz⟩ := pm_isSome_at hf
    obtain ⟨hx, hb, hml, hown, hts, hW0, hs, hini, ho, hco, hfr, hlo⟩ := hE
    have hw := pm_at_in (pm_all (P := fun (own : Nat) (e : Nat × Nat) => pm_at e.2 (.methodLink (pm_cn own) e.1 arraycopyName)) pm_al_ok ho (pm_find_mem hz))
    replace h : (match (generalizing := false) st with
      | [.int n, .int j, .ref q, .int i, .ref p9] => (pm_cp σ p9 i q j n).bind fun σ' => k [] σ'
      | _ => none) = some r := h
    split at h
    · rename_i n j q i p9
      obtain ⟨τ, hx1, h⟩ := pm_bind_I h
      obtain ⟨na, f, nb, g, h1, h2, ⟨k1, k2, k3⟩, k4, k5, rfl⟩ := pm_cp_I hx1
      refine va_copyi hx hb (by rw [hml]; exact hL.1.1.symm) hown (hts _ hw) (hts _ (pm_at_in (i := 424) (by decide +kernel))) (hts _ (pm_at_in (i := 423) (by decide +kernel))) (hts _ (pm_at_in (i := 67) (by decide +kernel))) hW0.1 hG.1 (pm_ws_D σ) hG.2.1 p9 q 0 0 (ty := .int) (pm_ws_at h1) (pm_ws_at h2) rfl rfl rfl k1 k2 k3 k4 k5 (fun _ _ => rfl) hfr ?_ hdg (fun H1 locs1 hP1 _ hS1 => hk _ _ _ _ _ _ h (hG.set (e := .inl (0, nb, .inl (va_cpy f g i.toNatClampNeg j.toNatClampNeg n.toNatClampNeg))) h2 rfl hP1 hS1))
      have e9 : nativeFrameWords "java/lang/System" "arraycopy" 5 = 7 := by decide
      rw [e9]
      simp
      omega
    · cases h
  · by_cases h5 : d = 5
    · subst h5
      obtain ⟨z, hz⟩ := pm_isSome_at hf
      obtain ⟨hx, hb, hml, hown, hts, hW0, hs, hini, ho, hco, hfr, hlo⟩ := hE
      have hw := pm_at_in (pm_all (P := fun (own : Nat) (e : Nat × Nat) => pm_at e.2 (.methodLink (pm_cn own) e.1 Lib.Math.max.name)) pm_xl_ok ho (pm_find_mem hz))
      replace h : (match (generalizing := false) st with
        | .int y :: .int x :: r9 => match Nat.ble r9.length 4 with
          | true => k (.int (if x < y then y else x) :: r9) σ
          | false => none
        | _ => none) = some r := h
      split at h
      · rename_i y x t
        split at h
        · rename_i hle
          have hcat := pm_cat s0 od t
          have hle := pm_ble hle
          obtain ⟨g1, g2⟩ := pm_room hG (k := 0) (n := 0) rfl rfl (hmono _ _ h) hRr
          exact va_mmax hx hb (by rw [hml]; exact hL.1.1.symm) hown (hts _ hw) (hts _ (pm_at_in (i := 706) (by decide +kernel))) (hts _ (pm_at_in (i := 70) (by decide +kernel))) (hts _ (pm_at_in (i := 707) (by decide +kernel))) hfr (by omega) g1 g2 hdg (hk _ _ _ _ _ _ h hG)
        · cases h
      · cases h
    · by_cases h6 : d = 6
      · subst h6
        obtain ⟨z, hz⟩ := pm_isSome_at hf
        obtain ⟨hx, hb, hml, hown, hts, hW0, hs, hini, ho, hco, hfr, hlo⟩ := hE
        have hw := pm_at_in (pm_all (P := fun (own : Nat) (e : Nat × Nat) => pm_at e.2 (.methodLink (pm_cn own) e.1 Lib.Math.min.name)) pm_yl_ok ho (pm_find_mem hz))
        replace h : (match (generalizing := false) st with
          | .int y :: .int x :: r9 => match Nat.ble r9.length 4 with
            | true => k (.int (if y < x then y else x) :: r9) σ
            | false => none
          | _ => none) = some r := h
        split at h
        · rename_i y x t
          split at h
          · rename_i hle
            have hcat := pm_cat s0 od t
            have hle := pm_ble hle
            obtain ⟨g1, g2⟩ := pm_room hG (k := 0) (n := 0) rfl rfl (hmono _ _ h) hRr
            exact va_mmin hx hb (by rw [hml]; exact hL.1.1.symm) hown (hts _ hw) (hts _ (pm_at_in (i := 753) (by decide +kernel))) (hts _ (pm_at_in (i := 70) (by decide +kernel))) (hts _ (pm_at_in (i := 754) (by decide +kernel))) hfr (by omega) g1 g2 hdg (hk _ _ _ _ _ _ h hG)
          · cases h
        · cases h
      · have hf : pm_okM M.1 idx a b d 0 = true := by
          split at hf
          · exact absurd rfl h4
          · exact absurd rfl h5
          · exact absurd rfl h6
          · exact hf
        obtain ⟨_, _, _, _, _, _, hd2, _⟩ := pm_okM_at hE.2.2.2.2.2.2.2.2.1 hf
        replace h : (match (generalizing := false) pm_take b [] st with
          | some (av, r9) => match Nat.ble (pm_cw r9) 8 with
            | true => pm_call3 d (call a av σ) k r9
            | false => none
          | none => none) = some r := by
          rcases (show d = 0 ∨ d = 1 ∨ d = 2 by omega) with rfl | rfl | rfl <;> exact h
        split at h
        · rename_i av t ht
          split at h
          · rename_i hle
            exact pm_s_callS hE hf hL hG hcall hRd hdg hmono hRr ht (pm_ble8 hle) h hk
          · cases h
        · cases h
set_option maxHeartbeats 8000000 in
set_option maxRecDepth 20000 in
theorem pm_step (hE : pm_E D s0 od tid L xs p s m args meth c M bytes maxL ini L0 R) (hmna : pm_Mna)
    (hcall : pm_Calls l D s0 od tid L xs call d0) (hRd : d0 + 1 ≤ R.frames ∧ 40 * (d0 + 1) ≤ R.locals)
    {K : Nat → pm_L → List Value → pm_H → Option pm_R} (hmono : ∀ pc ls st σ, K pc ls st σ = some r → pm_le σ r.2) (hRr : r.2.length ≤ R.cells + L0 ∧ pm_sz r.2 ≤ R.slots + Z0)
    (hK : ∀ pc ls st σ, K pc ls st σ = some r → ∀ (LS : Array Slot) (H : Heap) (locs : List Loc) (cells slots : Nat), pm_Rel s0 od maxL M.2.2.1 ls LS → pm_G D s0 od tid s L0 Z0 σ H locs cells slots → W p l e R s m args below meth c H locs cells slots Q (F0 m pc LS (st.map (pm_tv s0 od))))
    (hI : ∀ (pc : Nat) (st : List Value) (σ : pm_H) (LS : Array Slot) (H : Heap) (locs : List Loc) (cells slots : Nat), pm_G D s0 od tid s L0 Z0 σ H locs cells slots → decode bytes pc = .ok (.ireturn, 1) → pm_ret M.2.1 st σ = some r → W p l e R s m args below meth c H locs cells slots Q (F0 m pc LS (st.map (pm_tv s0 od))))
    (hJ : ∀ (pc : Nat) (st : List Value) (σ : pm_H) (LS : Array Slot) (H : Heap) (locs : List Loc) (cells slots : Nat), pm_G D s0 od tid s L0 Z0 σ H locs cells slots → decode bytes pc = .ok (.lreturn, 1) → (∃ j, pm_find M.2.2.2 pc = some (.lreturn, j)) → (∃ x, st = [.long x] ∧ r = (some (.long x), σ)) → W p l e R s m args below meth c H locs cells slots Q (F0 m pc LS (st.map (pm_tv s0 od))))
    (hV : ∀ (pc : Nat) (st : List Value) (σ : pm_H) (LS : Array Slot) (H : Heap) (locs : List Loc) (cells slots : Nat), pm_G D s0 od tid s L0 Z0 σ H locs cells slots → decode bytes pc = .ok (.return_, 1) → (∃ j, pm_find M.2.2.2 pc = some (.return_, j)) → (st = [] ∧ r = (none, σ)) → W p l e R s m args below meth c H locs cells slots Q (F0 m pc LS (st.map (pm_tv s0 od))))
    (h : pm_px call (pm_od L xs) K M pc ls st σ = some r) (hL : pm_Rel s0 od maxL M.2.2.1 ls LS) (hG : pm_G D s0 od tid s L0 Z0 σ H locs cells slots) : W p l e R s m args below meth c H locs cells slots Q (F0 m pc LS (st.map (pm_tv s0 od))) := by
  have hE2 := hE
  obtain ⟨hx, hb, hml, hown, hts, hW0, hs, hini, hown15, hco, hfr, hlo⟩ := hE2
  unfold pm_px at h
  split at h
  · cases h
  · rename_i i n9 c9 a9 b9 d9 sw9 hj
    have hmo : ∀ (st : List Value) (τ : pm_H), K (pc + n9) ls st τ = some r → pm_le τ r.2 := fun st τ q => hmono _ _ _ _ q
    obtain ⟨hdg, hok⟩ := hco pc _ hj
    dsimp only at hdg
    unfold pm_okI at hok
    dsimp only at hok
    cases i
    case iconst v =>
      dsimp only at h
      simp only [Bool.and_eq_true, decide_eq_true_eq] at hok
      obtain ⟨hn, hc⟩ := hok
      subst hn
      exact lv_iconst hx hb hdg hc (hK _ _ _ _ h _ _ _ _ _ hL hG)
    case bipush v =>
      dsimp only at h
      simp only [Bool.and_eq_true, decide_eq_true_eq] at hok
      obtain ⟨hn, hc⟩ := hok
      subst hn
      exact lv_bipush hx hb hdg hc (hK _ _ _ _ h _ _ _ _ _ hL hG)
    case sipush v =>
      dsimp only at h
      simp only [Bool.and_eq_true, decide_eq_true_eq] at hok
      obtain ⟨hn, hc⟩ := hok
      subst hn
      exact lv_sipush hx hb hdg hc (hK _ _ _ _ h _ _ _ _ _ hL hG)
    case ldc idx =>
      dsimp only at h hok
      simp only [Bool.and_eq_true, decide_eq_true_eq] at hok
      obtain ⟨hn, hc⟩ := hok
      subst hn
      split at hc
      · rename_i z hz
        have hc := of_decide_eq_true hc
        subst hc
        have hw := pm_at_in (List.all_eq_true.mp (List.all_eq_true.mp pm_ct_ok M.1 (List.mem_range.mpr hown15)) _ (pm_find_mem hz))
        exact lv_ldc hx hb hown (hts _ hw) hdg (hK _ _ _ _ h _ _ _ _ _ hL hG)
      · cases hc
    case ldc_w idx =>
      dsimp only at h hok
      simp only [Bool.and_eq_true, decide_eq_true_eq] at hok
      obtain ⟨hn, hc⟩ := hok
      subst hn
      split at hc
      · rename_i z hz
        have hc := of_decide_eq_true hc
        subst hc
        have hw := pm_at_in (List.all_eq_true.mp (List.all_eq_true.mp pm_ct_ok M.1 (List.mem_range.mpr hown15)) _ (pm_find_mem hz))
        exact lv_ldcw hx hb hown (hts _ hw) hdg (hK _ _ _ _ h _ _ _ _ _ hL hG)
      · cases hc
    case ldc2_w idx =>
      dsimp only at h hok
      simp only [Bool.and_eq_true, decide_eq_true_eq] at hok
      obtain ⟨hn, hc⟩ := hok
      subst hn
      split at hc
      · rename_i z hz
        have hc := of_decide_eq_true hc
        subst hc
        have hw := pm_at_in (List.all_eq_true.mp (List.all_eq_true.mp pm_lt_ok M.1 (List.mem_range.mpr hown15)) _ (pm_find_mem hz))
        exact lv_ldc2 hx hb hown (hts _ hw) hdg (hK _ _ _ _ h _ _ _ _ _ hL hG)
      · cases hc
    case lconst v =>
      dsimp only at h
      simp only [Bool.and_eq_true, decide_eq_true_eq] at hok
      obtain ⟨hn, hc⟩ := hok
      subst hn
      exact lv_lconst hx hb hdg hc (hK _ _ _ _ h _ _ _ _ _ hL hG)
    case iload k =>
      dsimp only at h
      simp only [Bool.and_eq_true, decide_eq_true_eq] at hok
      subst hok
      obtain ⟨x, hx1, h⟩ := pm_ldi_I h
      exact lv_iload hx hb hdg (hL.at hx1) (hK _ _ _ _ h _ _ _ _ _ hL hG)
    case iload_n k =>
      dsimp only at h
      simp only [Bool.and_eq_true, decide_eq_true_eq] at hok
      subst hok
      obtain ⟨x, hx1, h⟩ := pm_ldi_I h
      exact lv_iload_n hx hb hdg rfl (hL.at hx1) (hK _ _ _ _ h _ _ _ _ _ hL hG)
    case lload k =>
      dsimp only at h
      simp only [Bool.and_eq_true, decide_eq_true_eq] at hok
      subst hok
      obtain ⟨x, hx1, h⟩ := pm_ldl_I h
      exact lv_lload hx hb hdg (hL.at hx1) (hK _ _ _ _ h _ _ _ _ _ hL hG)
    case lload_n k =>
      dsimp only at h
      simp only [Bool.and_eq_true, decide_eq_true_eq] at hok
      subst hok
      obtain ⟨x, hx1, h⟩ := pm_ldl_I h
      exact lv_lload_n hx hb hdg rfl (hL.at hx1) (hK _ _ _ _ h _ _ _ _ _ hL hG)
    case aload k =>
      dsimp only at h
      simp only [Bool.and_eq_true, decide_eq_true_eq] at hok
      subst hok
      obtain ⟨v, a9, hx1, hv, h⟩ := pm_lda_I (s0 := s0) (od := od) h
      have h9 := hL.at hx1
      rw [hv] at h9
      have h8 := hK _ _ _ _ h _ _ _ _ _ hL hG
      rw [List.map_cons, hv] at h8
      exact lv_aload hx hb hdg h9 h8
    case aload_n k =>
      dsimp only at h
      simp only [Bool.and_eq_true, decide_eq_true_eq] at hok
      subst hok
      obtain ⟨v, a9, hx1, hv, h⟩ := pm_lda_I (s0 := s0) (od := od) h
      have h9 := hL.at hx1
      rw [hv] at h9
      have h8 := hK _ _ _ _ h _ _ _ _ _ hL hG
      rw [List.map_cons, hv] at h8
      exact lv_aload_n hx hb hdg rfl h9 h8
    case istore k =>
      dsimp only at h
      simp only [Bool.and_eq_true, decide_eq_true_eq] at hok
      obtain ⟨hn, hk⟩ := hok
      subst hn
      obtain ⟨x, t, rfl, h⟩ := pm_sti_I h
      exact lv_istore hx hb hdg hL.1 hk rfl (fun LS2 hl2 => hK _ _ _ _ h _ _ _ _ _ (hL.put (v := .int x) rfl hl2) hG)
    case istore_n k =>
      dsimp only at h
      simp only [Bool.and_eq_true, decide_eq_true_eq] at hok
      obtain ⟨hn, hk⟩ := hok
      subst hn
      obtain ⟨x, t, rfl, h⟩ := pm_sti_I h
      exact lv_istore_n hx hb hdg rfl hL.1 hk rfl (fun LS2 hl2 => hK _ _ _ _ h _ _ _ _ _ (hL.put (v := .int x) rfl hl2) hG)
    case lstore k =>
      dsimp only at h
      simp only [Bool.and_eq_true, decide_eq_true_eq] at hok
      obtain ⟨hn, hk⟩ := hok
      subst hn
      obtain ⟨x, t, rfl, hl, h⟩ := pm_stl_I h
      exact lv_lstore hx hb hdg hL.1 hk rfl (fun LS2 hl2 => hK _ _ _ _ h _ _ _ _ _ (hL.putl hl hl2) hG)
    case lstore_n k =>
      dsimp only at h
      simp only [Bool.and_eq_true, decide_eq_true_eq] at hok
      obtain ⟨hn, hk⟩ := hok
      subst hn
      obtain ⟨x, t, rfl, hl, h⟩ := pm_stl_I h
      exact lv_lstore_n hx hb hdg rfl hL.1 hk rfl (fun LS2 hl2 => hK _ _ _ _ h _ _ _ _ _ (hL.putl hl hl2) hG)
    case astore k =>
      dsimp only at h
      simp only [Bool.and_eq_true, decide_eq_true_eq] at hok
      obtain ⟨hn, hk⟩ := hok
      subst hn
      obtain ⟨v, a9, t, rfl, hv, hc1, h⟩ := pm_sta_I (s0 := s0) (od := od) h
      rw [List.map_cons, hv]
      refine lv_astore hx hb hdg hL.1 hk rfl (fun LS2 hl2 => ?_)
      exact hK _ _ _ _ h _ _ _ _ _ (hL.put hc1 (by rw [hv]; exact hl2)) hG
    case astore_n k =>
      dsimp only at h
      simp only [Bool.and_eq_true, decide_eq_true_eq] at hok
      obtain ⟨hn, hk⟩ := hok
      subst hn
      obtain ⟨v, a9, t, rfl, hv, hc1, h⟩ := pm_sta_I (s0 := s0) (od := od) h
      rw [List.map_cons, hv]
      refine lv_astore_n hx hb hdg rfl hL.1 hk rfl (fun LS2 hl2 => ?_)
      exact hK _ _ _ _ h _ _ _ _ _ (hL.put hc1 (by rw [hv]; exact hl2)) hG
    case iinc k v =>
      dsimp only at h
      simp only [Bool.and_eq_true, decide_eq_true_eq] at hok
      obtain ⟨⟨hn, hk⟩, hc⟩ := hok
      subst hn
      obtain ⟨x, hx1, h⟩ := pm_inc_I h
      obtain ⟨j, hj⟩ := List.getElem?_of_mem (pm_asc_mem (s0 := s0) (od := od) ls 0 k _ hx1)
      rw [Nat.zero_add] at hj
      exact lv_iinc hx hb hdg hL.1 hj (by rw [hc]) hk rfl (fun LS2 hl2 => hK _ _ _ _ h _ _ _ _ _ (hL.put (v := .int (x + c9)) rfl hl2) hG)
    case iadd =>
      dsimp only at h
      simp only [Bool.and_eq_true, decide_eq_true_eq] at hok
      subst hok
      obtain ⟨x, y, t, rfl, h⟩ := pm_ii_I h
      exact lv_iadd hx hb hdg (hK _ _ _ _ h _ _ _ _ _ hL hG)
    case isub =>
      dsimp only at h
      simp only [Bool.and_eq_true, decide_eq_true_eq] at hok
      subst hok
      obtain ⟨x, y, t, rfl, h⟩ := pm_ii_I h
      exact lv_isub hx hb hdg (hK _ _ _ _ h _ _ _ _ _ hL hG)
    case imul =>
      dsimp only at h
      simp only [Bool.and_eq_true, decide_eq_true_eq] at hok
      subst hok
      obtain ⟨x, y, t, rfl, h⟩ := pm_ii_I h
      exact lv_imul hx hb hdg (hK _ _ _ _ h _ _ _ _ _ hL hG)
    case iand =>
      dsimp only at h
      simp only [Bool.and_eq_true, decide_eq_true_eq] at hok
      subst hok
      obtain ⟨x, y, t, rfl, h⟩ := pm_ii_I h
      exact lv_iand hx hb hdg (hK _ _ _ _ h _ _ _ _ _ hL hG)
    case ior =>
      dsimp only at h
      simp only [Bool.and_eq_true, decide_eq_true_eq] at hok
      subst hok
      obtain ⟨x, y, t, rfl, h⟩ := pm_ii_I h
      exact lv_ior hx hb hdg (hK _ _ _ _ h _ _ _ _ _ hL hG)
    case ixor =>
      dsimp only at h
      simp only [Bool.and_eq_true, decide_eq_true_eq] at hok
      subst hok
      obtain ⟨x, y, t, rfl, h⟩ := pm_ii_I h
      exact lv_ixor hx hb hdg (hK _ _ _ _ h _ _ _ _ _ hL hG)
    case ishl =>
      dsimp only at h
      simp only [Bool.and_eq_true, decide_eq_true_eq] at hok
      subst hok
      obtain ⟨x, y, t, rfl, h⟩ := pm_ii_I h
      exact lv_ishl hx hb hdg (hK _ _ _ _ h _ _ _ _ _ hL hG)
    case ishr =>
      dsimp only at h
      simp only [Bool.and_eq_true, decide_eq_true_eq] at hok
      subst hok
      obtain ⟨x, y, t, rfl, h⟩ := pm_ii_I h
      exact lv_ishr hx hb hdg (hK _ _ _ _ h _ _ _ _ _ hL hG)
    case iushr =>
      dsimp only at h
      simp only [Bool.and_eq_true, decide_eq_true_eq] at hok
      subst hok
      obtain ⟨x, y, t, rfl, h⟩ := pm_ii_I h
      exact lv_iushr hx hb hdg rfl (hK _ _ _ _ h _ _ _ _ _ hL hG)
    case idiv =>
      dsimp only at h
      simp only [Bool.and_eq_true, decide_eq_true_eq] at hok
      subst hok
      obtain ⟨x, y, t, rfl, hy, h⟩ := pm_iz_I h
      exact lv_idiv hx hb hdg hy (hK _ _ _ _ h _ _ _ _ _ hL hG)
    case irem =>
      dsimp only at h
      simp only [Bool.and_eq_true, decide_eq_true_eq] at hok
      subst hok
      obtain ⟨x, y, t, rfl, hy, h⟩ := pm_iz_I h
      exact lv_irem hx hb hdg hy (hK _ _ _ _ h _ _ _ _ _ hL hG)
    case ineg =>
      dsimp only at h
      simp only [Bool.and_eq_true, decide_eq_true_eq] at hok
      subst hok
      obtain ⟨x, t, rfl, h⟩ := pm_i1_I h
      exact lv_ineg hx hb hdg (hK _ _ _ _ h _ _ _ _ _ hL hG)
    case i2l =>
      dsimp only at h
      simp only [Bool.and_eq_true, decide_eq_true_eq] at hok
      subst hok
      obtain ⟨x, t, rfl, h⟩ := pm_i1_I h
      exact lv_i2l hx hb hdg rfl (hK _ _ _ _ h _ _ _ _ _ hL hG)
    case i2b =>
      dsimp only at h
      simp only [Bool.and_eq_true, decide_eq_true_eq] at hok
      subst hok
      obtain ⟨x, t, rfl, h⟩ := pm_i1_I h
      exact lv_i2b hx hb hdg rfl (hK _ _ _ _ h _ _ _ _ _ hL hG)
    case i2s =>
      dsimp only at h
      simp only [Bool.and_eq_true, decide_eq_true_eq] at hok
      subst hok
      obtain ⟨x, t, rfl, h⟩ := pm_i1_I h
      exact lv_i2s hx hb hdg rfl (hK _ _ _ _ h _ _ _ _ _ hL hG)
    case l2i =>
      dsimp only at h
      simp only [Bool.and_eq_true, decide_eq_true_eq] at hok
      subst hok
      obtain ⟨x, t, rfl, h⟩ := pm_l1_I h
      exact lv_l2i hx hb hdg rfl (hK _ _ _ _ h _ _ _ _ _ hL hG)
    case ladd =>
      dsimp only at h
      simp only [Bool.and_eq_true, decide_eq_true_eq] at hok
      subst hok
      obtain ⟨x, y, t, rfl, h⟩ := pm_ll_I h
      exact lv_ladd hx hb hdg (hK _ _ _ _ h _ _ _ _ _ hL hG)
    case lsub =>
      dsimp only at h
      simp only [Bool.and_eq_true, decide_eq_true_eq] at hok
      subst hok
      obtain ⟨x, y, t, rfl, h⟩ := pm_ll_I h
      exact lv_lsub hx hb hdg (hK _ _ _ _ h _ _ _ _ _ hL hG)
    case lmul =>
      dsimp only at h
      simp only [Bool.and_eq_true, decide_eq_true_eq] at hok
      subst hok
      obtain ⟨x, y, t, rfl, h⟩ := pm_ll_I h
      exact lv_lmul hx hb hdg (hK _ _ _ _ h _ _ _ _ _ hL hG)
    case lcmp =>
      dsimp only at h
      simp only [Bool.and_eq_true, decide_eq_true_eq] at hok
      subst hok
      obtain ⟨x, y, t, rfl, h⟩ := pm_ll_I h
      exact W.lcmp hx hb hdg (hK _ _ _ _ h _ _ _ _ _ hL hG)
    case ldiv =>
      dsimp only at h
      simp only [Bool.and_eq_true, decide_eq_true_eq] at hok
      subst hok
      obtain ⟨x, y, t, rfl, hy, h⟩ := pm_lz_I h
      exact lv_ldiv hx hb hdg hy (hK _ _ _ _ h _ _ _ _ _ hL hG)
    case lrem =>
      dsimp only at h
      simp only [Bool.and_eq_true, decide_eq_true_eq] at hok
      subst hok
      obtain ⟨x, y, t, rfl, hy, h⟩ := pm_lz_I h
      exact lv_lrem hx hb hdg hy (hK _ _ _ _ h _ _ _ _ _ hL hG)
    case goto o =>
      dsimp only at h
      simp only [Bool.and_eq_true, decide_eq_true_eq] at hok
      obtain ⟨ho, hn⟩ := hok
      subst hn
      exact lv_goto hx hb hdg ho (hK _ _ _ _ h _ _ _ _ _ hL hG)
    case if_icmp cnd o =>
      dsimp only at h
      simp only [Bool.and_eq_true, decide_eq_true_eq] at hok
      obtain ⟨hn, ho⟩ := hok
      subst hn
      unfold pm_icmp at h
      split at h
      · cases cnd
        case eq =>
          refine lv_icmp_eq hx hb hdg ho (fun hq => ?_) (fun hq => ?_)
          · dsimp only at h
            rw [if_pos hq] at h
            exact hK _ _ _ _ h _ _ _ _ _ hL hG
          · dsimp only at h
            rw [if_neg hq] at h
            exact hK _ _ _ _ h _ _ _ _ _ hL hG
        case ne =>
          refine lv_icmp_ne hx hb hdg ho (fun hq => ?_) (fun hq => ?_)
          · dsimp only at h
            rw [if_pos hq] at h
            exact hK _ _ _ _ h _ _ _ _ _ hL hG
          · dsimp only at h
            rw [if_neg (fun q => q hq)] at h
            exact hK _ _ _ _ h _ _ _ _ _ hL hG
        case lt =>
          refine lv_icmp_lt hx hb hdg ho (fun hq => ?_) (fun hq => ?_)
          · dsimp only at h
            rw [if_pos hq] at h
            exact hK _ _ _ _ h _ _ _ _ _ hL hG
          · dsimp only at h
            rw [if_neg hq] at h
            exact hK _ _ _ _ h _ _ _ _ _ hL hG
        case ge =>
          refine lv_icmp_ge hx hb hdg ho (fun hq => ?_) (fun hq => ?_)
          · dsimp only at h
            rw [if_pos hq] at h
            exact hK _ _ _ _ h _ _ _ _ _ hL hG
          · dsimp only at h
            rw [if_neg hq] at h
            exact hK _ _ _ _ h _ _ _ _ _ hL hG
        case gt =>
          refine lv_icmp_gt hx hb hdg ho (fun hq => ?_) (fun hq => ?_)
          · dsimp only at h
            rw [if_pos hq] at h
            exact hK _ _ _ _ h _ _ _ _ _ hL hG
          · dsimp only at h
            rw [if_neg hq] at h
            exact hK _ _ _ _ h _ _ _ _ _ hL hG
        case le =>
          refine lv_icmp_le hx hb hdg ho (fun hq => ?_) (fun hq => ?_)
          · dsimp only at h
            rw [if_pos hq] at h
            exact hK _ _ _ _ h _ _ _ _ _ hL hG
          · dsimp only at h
            rw [if_neg hq] at h
            exact hK _ _ _ _ h _ _ _ _ _ hL hG
      · cases h
    case ifCond cnd o =>
      dsimp only at h
      simp only [Bool.and_eq_true, decide_eq_true_eq] at hok
      obtain ⟨hn, ho⟩ := hok
      subst hn
      unfold pm_ifc at h
      split at h
      · cases cnd
        case eq =>
          refine lv_if_eq hx hb hdg ho (fun hq => ?_) (fun hq => ?_)
          · dsimp only at h
            rw [if_pos hq] at h
            exact hK _ _ _ _ h _ _ _ _ _ hL hG
          · dsimp only at h
            rw [if_neg hq] at h
            exact hK _ _ _ _ h _ _ _ _ _ hL hG
        case ne =>
          refine lv_if_ne hx hb hdg ho (fun hq => ?_) (fun hq => ?_)
          · dsimp only at h
            rw [if_pos hq] at h
            exact hK _ _ _ _ h _ _ _ _ _ hL hG
          · dsimp only at h
            rw [if_neg (fun q => q hq)] at h
            exact hK _ _ _ _ h _ _ _ _ _ hL hG
        case lt =>
          refine lv_if_lt hx hb hdg ho (fun hq => ?_) (fun hq => ?_)
          · dsimp only at h
            rw [if_pos hq] at h
            exact hK _ _ _ _ h _ _ _ _ _ hL hG
          · dsimp only at h
            rw [if_neg hq] at h
            exact hK _ _ _ _ h _ _ _ _ _ hL hG
        case ge =>
          refine lv_if_ge hx hb hdg ho (fun hq => ?_) (fun hq => ?_)
          · dsimp only at h
            rw [if_pos hq] at h
            exact hK _ _ _ _ h _ _ _ _ _ hL hG
          · dsimp only at h
            rw [if_neg hq] at h
            exact hK _ _ _ _ h _ _ _ _ _ hL hG
        case gt =>
          refine lv_if_gt hx hb hdg ho (fun hq => ?_) (fun hq => ?_)
          · dsimp only at h
            rw [if_pos hq] at h
            exact hK _ _ _ _ h _ _ _ _ _ hL hG
          · dsimp only at h
            rw [if_neg hq] at h
            exact hK _ _ _ _ h _ _ _ _ _ hL hG
        case le =>
          refine lv_if_le hx hb hdg ho (fun hq => ?_) (fun hq => ?_)
          · dsimp only at h
            rw [if_pos hq] at h
            exact hK _ _ _ _ h _ _ _ _ _ hL hG
          · dsimp only at h
            rw [if_neg hq] at h
            exact hK _ _ _ _ h _ _ _ _ _ hL hG
      · cases h
    case tableswitch dft lo hi offs =>
      dsimp only at h hok
      simp only [Bool.and_eq_true, decide_eq_true_eq] at hok
      obtain ⟨⟨hd, hh⟩, hsw⟩ := hok
      obtain ⟨x, t, rfl, h⟩ := pm_sw_I h
      rcases pm_sw_ok pc (fun z => K z ls t σ) a9 x r lo offs.toList sw9 hsw h with ⟨i, o, t9, g1, g2, g3, h⟩ | ⟨g1, h⟩
      · have hlen := (List.getElem?_eq_some_iff.mp g1).1
        refine lv_tableIn hx hb hdg (by omega) (by omega) (off := o) ?_ g3 (hK _ _ _ _ h _ _ _ _ _ hL hG)
        have e9 : (x.toInt - lo).toNat = i := by omega
        rw [e9, ← Array.getElem?_toList]
        exact g1
      · exact lv_tableOut hx hb hdg (by omega) hd (hK _ _ _ _ h _ _ _ _ _ hL hG)
    case lookupswitch dft ps =>
      dsimp only at h hok
      simp only [Bool.and_eq_true, decide_eq_true_eq] at hok
      obtain ⟨⟨hd, hh⟩, hsw⟩ := hok
      obtain ⟨x, t, rfl, h⟩ := pm_sw_I h
      obtain ⟨t9, g1, h⟩ := pm_lk_ok pc (fun z => K z ls t σ) dft a9 hd x r ps.toList sw9 hsw h
      exact lv_lookup hx hb hdg hh rfl g1 (hK _ _ _ _ h _ _ _ _ _ hL hG)
    case dup =>
      dsimp only at h
      simp only [Bool.and_eq_true, decide_eq_true_eq] at hok
      subst hok
      obtain ⟨v, t, rfl, hv, h⟩ := pm_dup_I h
      exact lv_dup hx hb hdg ((pm_tv_cat v).trans hv) (hK _ _ _ _ h _ _ _ _ _ hL hG)
    case dup2 =>
      dsimp only at h
      simp only [Bool.and_eq_true, decide_eq_true_eq] at hok
      subst hok
      obtain ⟨v, w, t, rfl, hv, hw, h⟩ := pm_dup2_I h
      exact lv_dup2_11 hx hb hdg ((pm_tv_cat v).trans hv) ((pm_tv_cat w).trans hw) (hK _ _ _ _ h _ _ _ _ _ hL hG)
    case getfield idx =>
      dsimp only at h hok
      simp only [Bool.and_eq_true, decide_eq_true_eq] at hok
      obtain ⟨hn, hf⟩ := hok
      subst hn
      exact pm_s_get hE hf hG hdg h (fun st9 h => hK _ _ _ _ h _ _ _ _ _ hL hG)
    case putfield idx =>
      dsimp only at h hok
      simp only [Bool.and_eq_true, decide_eq_true_eq] at hok
      obtain ⟨⟨hn, hf⟩, hp⟩ := hok
      subst hn
      exact pm_s_put hE hf hp hG hdg h (fun st9 σ9 H9 locs9 h hG9 => hK _ _ _ _ h _ _ _ _ _ hL hG9)
    case getstatic idx =>
      dsimp only at h hok
      rw [Bool.and_eq_true, decide_eq_true_eq] at hok
      obtain ⟨hn, hf⟩ := hok
      subst hn
      exact pm_s_gets hE hf hG hdg (hK _ _ _ _ h _ _ _ _ _ hL hG)
    case iaload =>
      dsimp only at h
      simp only [Bool.and_eq_true, decide_eq_true_eq] at hok
      subst hok
      exact pm_s_iald hE hG hdg h (fun st9 h => hK _ _ _ _ h _ _ _ _ _ hL hG)
    case baload =>
      dsimp only at h
      simp only [Bool.and_eq_true, decide_eq_true_eq] at hok
      subst hok
      exact pm_s_zald hE hG hdg h (fun st9 h => hK _ _ _ _ h _ _ _ _ _ hL hG)
    case aaload =>
      dsimp only at h
      simp only [Bool.and_eq_true, decide_eq_true_eq] at hok
      subst hok
      exact pm_s_aald hE hG hdg h (fun st9 h => hK _ _ _ _ h _ _ _ _ _ hL hG)
    case arraylength =>
      dsimp only at h
      simp only [Bool.and_eq_true, decide_eq_true_eq] at hok
      subst hok
      exact pm_s_alen hE hG hdg h (fun st9 h => hK _ _ _ _ h _ _ _ _ _ hL hG)
    case iastore =>
      dsimp only at h
      simp only [Bool.and_eq_true, decide_eq_true_eq] at hok
      subst hok
      exact pm_s_iastore hE hG hdg h (fun st9 σ9 H9 locs9 h hG9 => hK _ _ _ _ h _ _ _ _ _ hL hG9)
    case bastore =>
      dsimp only at h
      simp only [Bool.and_eq_true, decide_eq_true_eq] at hok
      subst hok
      exact pm_s_bastore hE hG hdg h (fun st9 σ9 H9 locs9 h hG9 => hK _ _ _ _ h _ _ _ _ _ hL hG9)
    case aastore =>
      dsimp only at h
      simp only [Bool.and_eq_true, decide_eq_true_eq] at hok
      subst hok
      exact pm_s_aastore hE hG hdg h (fun st9 σ9 H9 locs9 h hG9 => hK _ _ _ _ h _ _ _ _ _ hL hG9)
    case newarray t =>
      dsimp only at h hok
      rw [Bool.and_eq_true, decide_eq_true_eq] at hok
      obtain ⟨hn, hf⟩ := hok
      subst hn
      exact pm_s_newa hE hf hG hdg hmo hRr h (fun st9 σ9 H9 locs9 c9 s9 h hG9 => hK _ _ _ _ h _ _ _ _ _ hL hG9)
    case anewarray idx =>
      dsimp only at h hok
      rw [Bool.and_eq_true, decide_eq_true_eq] at hok
      obtain ⟨hn, hf⟩ := hok
      subst hn
      exact pm_s_newq hE hf hG hdg hmo hRr h (fun st9 σ9 H9 locs9 c9 s9 h hG9 => hK _ _ _ _ h _ _ _ _ _ hL hG9)
    case multianewarray idx dm =>
      dsimp only at h hok
      simp only [Bool.and_eq_true, decide_eq_true_eq] at hok
      obtain ⟨⟨⟨hn, hd⟩, ho⟩, hi⟩ := hok
      subst hn
      subst hd
      exact pm_s_newm hE ho hi hG hmna hdg hmo hRr h (fun st9 σ9 H9 locs9 c9 s9 h hG9 => hK _ _ _ _ h _ _ _ _ _ hL hG9)
    case new idx =>
      dsimp only at h hok
      rw [Bool.and_eq_true, decide_eq_true_eq] at hok
      obtain ⟨hn, hf⟩ := hok
      subst hn
      exact pm_s_newo hE hf hG hdg hmo hRr h (fun st9 σ9 H9 locs9 c9 s9 h hG9 => hK _ _ _ _ h _ _ _ _ _ hL hG9)
    case invokestatic idx =>
      dsimp only at h hok
      rw [Bool.and_eq_true, decide_eq_true_eq] at hok
      obtain ⟨hn, hf⟩ := hok
      subst hn
      exact pm_s_invokestatic hE hf hL hG hcall hRd hdg hmo hRr h (fun st9 σ9 H9 locs9 c9 s9 h hG9 => hK _ _ _ _ h _ _ _ _ _ hL hG9)
    case invokevirtual idx =>
      dsimp only at h hok
      simp only [Bool.and_eq_true, decide_eq_true_eq] at hok
      obtain ⟨hn, hf⟩ := hok
      subst hn
      exact pm_s_invokevirtual hE hf hL hG hcall hRd hdg hmo hRr h (fun st9 σ9 H9 locs9 c9 s9 h hG9 => hK _ _ _ _ h _ _ _ _ _ hL hG9)
    case invokespecial idx =>
      dsimp only at h hok
      rw [Bool.and_eq_true, decide_eq_true_eq] at hok
      obtain ⟨hn, hf⟩ := hok
      subst hn
      exact pm_s_invokespecial hE hf hL hG hcall hRd hdg hmo hRr h (fun st9 σ9 H9 locs9 c9 s9 h hG9 => hK _ _ _ _ h _ _ _ _ _ hL hG9)
    case ireturn =>
      dsimp only at h
      simp only [Bool.and_eq_true, decide_eq_true_eq] at hok
      subst hok
      exact hI _ _ _ _ _ _ _ _ hG hdg h
    case lreturn =>
      simp only [Bool.and_eq_true, decide_eq_true_eq] at hok
      subst hok
      dsimp only at h
      split at h
      · rename_i x
        cases h
        exact hJ _ _ _ _ _ _ _ _ hG hdg ⟨_, hj⟩ ⟨x, rfl, rfl⟩
      · cases h
    case return_ =>
      simp only [Bool.and_eq_true, decide_eq_true_eq] at hok
      subst hok
      dsimp only at h
      split at h
      · cases h
        exact hV _ _ _ _ _ _ _ _ hG hdg ⟨_, hj⟩ ⟨rfl, rfl⟩
      · cases h
    all_goals exact absurd h (fun q => by cases q)
end PS5
