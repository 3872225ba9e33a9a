/-! new cells -/
theorem pm_Int_le {n : Int32} (h0 : ¬ n < 0) (h : n ≤ 2000) : n.toNatClampNeg ≤ 2000 := by
  have h1 : n.toInt ≤ 2000 := Int32.le_iff_toInt_le.mp h
  show n.toInt.toNat ≤ 2000
  omega
section PS3
variable {D : va_G} {s0 : Nat} {od : Nat → Nat} {tid : Nat → ClassId} {L : Nat} {xs : Nat → Int32}
variable {p : Program} {l : Launch} {e : Env} {R : Room} {s : State} {m : MethodId} {args : Array Value} {below : List Frame} {meth : Method} {c : Code} {H : Heap} {locs : List Loc} {cells slots : Nat} {Q : State → Prop}
variable {M : pm_M} {bytes : ByteArray} {maxL : Nat} {ini : Bool} {L0 Z0 : Nat} {r : pm_R} {pc : Nat} {LS : Array Slot} {st : List Value} {σ : pm_H}
theorem pm_sz_one (e : va_E) : pm_sz [e] = pm_s1 e := by simp [pm_sz]
/-- one cell more -/
theorem pm_grow (hs : s.heap.size = s0 + L0) (hG : pm_G D s0 od tid s L0 Z0 σ H locs cells slots) {x : va_E} {q n : Nat} {H1 : Heap} (hn : n = pm_s1 x) (hP : va_P D pm_cl (pm_ws s0 od tid σ ++ [(q, pm_te s0 od tid x)]) H1) (hD : va_D (pm_A s0) (pm_ws s0 od tid σ ++ [(q, pm_te s0 od tid x)])) (hS : va_S (pm_A s0) s.heap H1 locs) {pc : Nat} {st : List Value} (hk : ∀ H9, pm_G D s0 od tid s L0 Z0 (σ ++ [x]) H9 locs (cells + 1) (slots + n) → W p l e R s m args below meth c H9 locs (cells + 1) (slots + n) Q (F0 m pc LS ((Value.ref σ.length :: st).map (pm_tv s0 od)))) : W p l e R s m args below meth c H1 locs (cells + 1) (slots + n) Q (F0 m pc LS (Value.ref q :: st.map (pm_tv s0 od))) := by
  refine pm_Wsz (fun hz => ?_)
  have hq : q < H1.size := (hP σ.length (q, pm_te s0 od tid x) (by rw [List.getElem?_append_right (by rw [pm_ws_len]; omega), pm_ws_len]; simp)).lt
  have e9 := pm_addr hD hq (by have := hG.2.2.1; omega)
  subst e9
  refine hk H1 ⟨by rw [pm_ws_app]; exact hP, hS, ?_, ?_⟩
  · have := hG.2.2.1
    rw [List.length_append]
    simp
    omega
  · have := hG.2.2.2
    rw [pm_sz_app, pm_sz_one]
    omega
theorem pm_room (hG : pm_G D s0 od tid s L0 Z0 σ H locs cells slots) {τ : pm_H} {k n : Nat} (h1 : σ.length + k = τ.length) (h2 : pm_sz σ + n = pm_sz τ) (hle : pm_le τ r.2) (hRr : r.2.length ≤ R.cells + L0 ∧ pm_sz r.2 ≤ R.slots + Z0) : cells + k ≤ R.cells ∧ slots + n ≤ R.slots := by
  obtain ⟨-, -, h3, h4⟩ := hG
  obtain ⟨g1, g2⟩ := hle
  obtain ⟨f1, f2⟩ := hRr
  omega
theorem pm_s_newa (hE : pm_E D s0 od tid L xs p s m args meth c M bytes maxL ini L0 R) {t : ArrayType} {a : Nat} (hf : (match t with
      | .int => decide (a = 0)
      | .boolean => decide (a = 1)
      | _ => false) = true) (hG : pm_G D s0 od tid s L0 Z0 σ H locs cells slots) (hdg : decode bytes pc = .ok (.newarray t, 2)) {k : List Value → pm_H → Option pm_R} (hmono : ∀ st τ, k st τ = some r → pm_le τ r.2) (hRr : r.2.length ≤ R.cells + L0 ∧ pm_sz r.2 ≤ R.slots + Z0) (h : pm_newa a st σ k = some r) (hk : ∀ st9 σ9 H9 locs9 c9 s9, k st9 σ9 = some r → pm_G D s0 od tid s L0 Z0 σ9 H9 locs9 c9 s9 → W p l e R s m args below meth c H9 locs9 c9 s9 Q (F0 m (pc + 2) LS (st9.map (pm_tv s0 od)))) : W p l e R s m args below meth c H locs cells slots Q (F0 m pc LS (st.map (pm_tv s0 od))) := by
  obtain ⟨hx, hb, hml, hown, hts, hW0, hs, hini, ho, hco, hfr, hlo⟩ := hE
  unfold pm_newa at h
  split at h
  · rename_i n t9
    split at h
    · rename_i hn
      have hn2 := pm_Int_le hn.1 hn.2
      cases t <;> simp at hf
      · subst hf
        obtain ⟨g1, g2⟩ := pm_room hG (k := 1) (n := n.toNatClampNeg) (by simp) (by rw [pm_sz_app]; rfl) (hmono _ _ h) hRr
        refine va_newa (a0 := (n.toNatClampNeg, .inl fun _ => 0)) hx hb (hts _ (pm_at_in (i := 1100) (by decide +kernel))) rfl hW0.1 hG.1 (pm_ws_D σ) hG.2.1 (fun q hq => by show s0 ≤ q; omega) (fun cA => rfl) hn.1 rfl (by show n.toNatClampNeg * 1 ≤ 536870912; omega) g1 g2 hdg (fun q cA H1 hK1 hP1 hD1 hS1 => ?_)
        have e9 : cA = tid 1 := by
          have k1 := (hK1.2 4 _ rfl).2
          have k2 := (hW0.1.2 1 _ rfl).2
          exact Option.some.inj (Eq.trans (Eq.symm k1) k2)
        subst e9
        exact pm_grow (x := .inl (1, n.toNatClampNeg, .inl fun _ => 0)) hs hG rfl hP1 hD1 hS1 (fun H9 hG9 => hk _ _ _ _ _ _ h hG9)
      · subst hf
        obtain ⟨g1, g2⟩ := pm_room hG (k := 1) (n := n.toNatClampNeg) (by simp) (by rw [pm_sz_app]; rfl) (hmono _ _ h) hRr
        refine va_newa (a0 := (n.toNatClampNeg, .inl fun _ => 0)) hx hb (hts _ (pm_at_in (i := 100) (by decide +kernel))) rfl hW0.1 hG.1 (pm_ws_D σ) hG.2.1 (fun q hq => by show s0 ≤ q; omega) (fun cA => rfl) hn.1 rfl (by show n.toNatClampNeg * 4 ≤ 536870912; omega) g1 g2 hdg (fun q cA H1 hK1 hP1 hD1 hS1 => ?_)
        have e9 : cA = tid 0 := by
          have k1 := (hK1.2 4 _ rfl).2
          have k2 := (hW0.1.2 0 _ rfl).2
          exact Option.some.inj (Eq.trans (Eq.symm k1) k2)
        subst e9
        exact pm_grow (x := .inl (0, n.toNatClampNeg, .inl fun _ => 0)) hs hG rfl hP1 hD1 hS1 (fun H9 hG9 => hk _ _ _ _ _ _ h hG9)
    · cases h
  · cases h
theorem pm_s_newq (hE : pm_E D s0 od tid L xs p s m args meth c M bytes maxL ini L0 R) {idx : Nat} (hf : (match pm_find (pm_nl M.1) idx with
      | some z => decide (z.1 = 4)
      | none => false) = true) (hG : pm_G D s0 od tid s L0 Z0 σ H locs cells slots) (hdg : decode bytes pc = .ok (.anewarray idx, 3)) {k : List Value → pm_H → Option pm_R} (hmono : ∀ st τ, k st τ = some r → pm_le τ r.2) (hRr : r.2.length ≤ R.cells + L0 ∧ pm_sz r.2 ≤ R.slots + Z0) (h : pm_newa 2 st σ k = some r) (hk : ∀ st9 σ9 H9 locs9 c9 s9, k st9 σ9 = some r → pm_G D s0 od tid s L0 Z0 σ9 H9 locs9 c9 s9 → W p l e R s m args below meth c H9 locs9 c9 s9 Q (F0 m (pc + 3) LS (st9.map (pm_tv s0 od)))) : W p l e R s m args below meth c H locs cells slots Q (F0 m pc LS (st.map (pm_tv s0 od))) := by
  obtain ⟨hx, hb, hml, hown, hts, hW0, hs, hini, ho, hco, hfr, hlo⟩ := hE
  split at hf
  · rename_i z hz
    simp only [decide_eq_true_eq] at hf
    have hcl := pm_at_in (pm_all (P := fun (own : Nat) (e : Nat × Nat × Nat) => pm_at e.2.2 (.classLink (pm_cn own) e.1 (pm_cn e.2.1))) pm_nl_ok ho (pm_find_mem hz))
    rw [show (idx, z).2.1 = 4 from hf] at hcl
    unfold pm_newa at h
    split at h
    · rename_i n t9
      split at h
      · rename_i hn
        have hn2 := pm_Int_le hn.1 hn.2
        obtain ⟨g1, g2⟩ := pm_room hG (k := 1) (n := n.toNatClampNeg) (by simp) (by rw [pm_sz_app]; rfl) (hmono _ _ h) hRr
        refine va_newq (C := "EggsLast$Shop") hx hb hown (hts _ hcl) hW0.2.2.2.2.1 hW0.1 hG.1 (pm_ws_D σ) hG.2.1 (fun q hq => by show s0 ≤ q; omega) hn.1 rfl (by omega) g1 g2 hdg (fun q cA H1 hK1 hP1 hD1 hS1 => ?_)
        have e9 : cA = tid 2 := by
          obtain ⟨_, _, _, _, _, k1⟩ := (hK1.2 4 _ rfl).2
          obtain ⟨_, _, _, _, _, k2⟩ := (hW0.1.2 2 _ rfl).2
          exact Option.some.inj (Eq.trans (Eq.symm k1) k2)
        subst e9
        exact pm_grow (x := .inl (2, n.toNatClampNeg, .inr (.inr (.inr (.inr fun _ => none))))) hs hG rfl hP1 hD1 hS1 (fun H9 hG9 => hk _ _ _ _ _ _ h hG9)
      · cases h
    · cases h
  · cases hf
theorem pm_s_newo (hE : pm_E D s0 od tid L xs p s m args meth c M bytes maxL ini L0 R) {idx a : Nat} (hf : (match pm_find (pm_nl M.1) idx with
      | some z => decide (z.1 = a)
      | none => false) = true) (hG : pm_G D s0 od tid s L0 Z0 σ H locs cells slots) (hdg : decode bytes pc = .ok (.new idx, 3)) {k : List Value → pm_H → Option pm_R} (hmono : ∀ st τ, k st τ = some r → pm_le τ r.2) (hRr : r.2.length ≤ R.cells + L0 ∧ pm_sz r.2 ≤ R.slots + Z0) (h : pm_newo a st σ k = some r) (hk : ∀ st9 σ9 H9 locs9 c9 s9, k st9 σ9 = some r → pm_G D s0 od tid s L0 Z0 σ9 H9 locs9 c9 s9 → W p l e R s m args below meth c H9 locs9 c9 s9 Q (F0 m (pc + 3) LS (st9.map (pm_tv s0 od)))) : W p l e R s m args below meth c H locs cells slots Q (F0 m pc LS (st.map (pm_tv s0 od))) := by
  obtain ⟨hx, hb, hml, hown, hts, hW0, hs, hini, ho, hco, hfr, hlo⟩ := hE
  split at hf
  · rename_i z hz
    simp only [decide_eq_true_eq] at hf
    have hcl := pm_at_in (pm_all (P := fun (own : Nat) (e : Nat × Nat × Nat) => pm_at e.2.2 (.classLink (pm_cn own) e.1 (pm_cn e.2.1))) pm_nl_ok ho (pm_find_mem hz))
    rw [show (idx, z).2.1 = a from hf] at hcl
    unfold pm_newo at h
    split at h
    · rename_i fs hfs
      obtain ⟨rr, ty, hrr, hty, hdv, hinst, hinit, hlen, hnm⟩ := pm_NI_ok a fs hfs
      rw [← hnm] at hcl
      obtain ⟨hin1, -, -⟩ := pm_CI_ok _ _ hrr
      obtain ⟨g1, g2⟩ := pm_room hG (k := 1) (n := rr.2.2) (by simp) (by rw [pm_sz_app]; simp [pm_sz, pm_s1, hlen]) (hmono _ _ h) hRr
      have hmap : fs.map (pm_tv s0 od) = fs := by
        clear h hdv
        match a, hfs with
        | 0, h => cases h; rfl
        | 1, h => cases h; rfl
        | 2, h => cases h; rfl
        | 3, h => cases h; rfl
        | 4, h => cases h; rfl
        | 5, h => cases h; rfl
        | 6, h => cases h; rfl
        | 7, h => cases h; rfl
        | 8, h => cases h; rfl
        | n + 9, h => simp [pm_new] at h
      refine va_new (C := rr.1) (T := rr.2.1) (N := rr.2.2) (fs := fs) hx hb hts hin1 ty hty hown (hts _ hcl) (hts _ hinst) (hts _ hinit) hW0.1 hG.1 (pm_ws_D σ) hG.2.1 (fun q hq => by show s0 ≤ q; omega) hrr hdv g1 g2 hdg (fun q H1 hP1 hD1 hS1 => ?_)
      have e9 : pm_te s0 od tid (.inr (a, fs)) = .inr (a, fs) := by
        show Sum.inr (a, fs.map (pm_tv s0 od)) = _
        rw [hmap]
      exact pm_grow (x := .inr (a, fs)) hs hG hlen.symm (by rw [e9]; exact hP1) (by rw [e9]; exact hD1) hS1 (fun H9 hG9 => hk _ _ _ _ _ _ h hG9)
    · cases h
  · cases hf
set_option maxHeartbeats 1000000 in
theorem pm_s_newm (hE : pm_E D s0 od tid L xs p s m args meth c M bytes maxL ini L0 R) {idx : Nat} (ho3 : M.1 = 3) (hi : idx = 11) (hG : pm_G D s0 od tid s L0 Z0 σ H locs cells slots) (hmna : pm_Mna) (hdg : decode bytes pc = .ok (.multianewarray idx 2, 4)) {k : List Value → pm_H → Option pm_R} (hmono : ∀ st τ, k st τ = some r → pm_le τ r.2) (hRr : r.2.length ≤ R.cells + L0 ∧ pm_sz r.2 ≤ R.slots + Z0) (h : pm_newm st σ k = some r) (hk : ∀ st9 σ9 H9 locs9 c9 s9, k st9 σ9 = some r → pm_G D s0 od tid s L0 Z0 σ9 H9 locs9 c9 s9 → W p l e R s m args below meth c H9 locs9 c9 s9 Q (F0 m (pc + 4) LS (st9.map (pm_tv s0 od)))) : W p l e R s m args below meth c H locs cells slots Q (F0 m pc LS (st.map (pm_tv s0 od))) := by
  obtain ⟨hx, hb, hml, hown, hts, hW0, hs, hini, ho, hco, hfr, hlo⟩ := hE
  subst hi
  rw [ho3] at hown
  unfold pm_newm at h
  split at h
  · rename_i k9 n t9
    split at h
    · rename_i hn
      obtain ⟨⟨hn0, hn1⟩, hk0, hk1⟩ := hn
      have hn2 := pm_Int_le hn0 hn1
      have hk2 := pm_Int_le hk0 hk1
      have hrep : ∀ j, pm_sz (List.replicate j (Sum.inl (0, k9.toNatClampNeg, .inl fun _ => 0) : va_E)) = j * k9.toNatClampNeg := by
        intro j
        induction j with
        | zero => simp [pm_sz]
        | succ j ih => rw [List.replicate_succ, pm_sz, ih, Nat.succ_mul]; simp [pm_s1]; omega
      obtain ⟨g1, g2⟩ := pm_room hG (k := 1 + n.toNatClampNeg) (n := n.toNatClampNeg + n.toNatClampNeg * k9.toNatClampNeg) (by simp; omega) (by rw [pm_sz_app, pm_sz_app, hrep]; simp [pm_sz, pm_s1]; omega) (hmono _ _ h) hRr
      refine pm_Wsz (fun hz => ?_)
      have hsz := pm_exact hs hG hz
      refine hmna p l e R s m args below meth c bytes H locs cells slots Q pc LS (t9.map (pm_tv s0 od)) "EggsLast$Rows" 11 n k9 hx hb hown (hts _ (pm_at_in (i := 87) (by decide +kernel))) hW0.2.2.2.2.2 (hts _ (pm_at_in (i := 100) (by decide +kernel))) hn0 hk0 hn2 hk2 g1 g2 hdg (fun H1 cA cI f1 f2 f3 f4 f5 f6 => ?_)
      have e1 : cA = tid 3 := Option.some.inj (Eq.trans (Eq.symm f1) (hW0.1.2 3 _ rfl).2)
      have e2 : cI = tid 0 := Option.some.inj (Eq.trans (Eq.symm f2) (hW0.1.2 0 _ rfl).2)
      subst e1
      subst e2
      rw [hsz] at f3 f4 f5 f6 ⊢
      refine hk _ _ _ _ _ _ h ⟨?_, ⟨by have := hG.2.1.1; omega, fun q hq1 hq2 => ?_, hG.2.1.2.2⟩, ?_, ?_⟩
      · intro i x hx9
        obtain ⟨y, hy, rfl⟩ := pm_ws_of hx9
        by_cases h1 : i < σ.length
        · rw [List.getElem?_append_left (by simp; omega), List.getElem?_append_left h1] at hy
          have h8 := hG.1 i _ (pm_ws_at hy)
          exact h8.kept (f6 _ (by show s0 + i < _; omega))
        · by_cases h2 : i = σ.length
          · subst h2
            rw [List.getElem?_append_left (by simp), List.getElem?_append_right (by omega)] at hy
            simp at hy
            subst hy
            refine Eq.trans f4 ?_
            show some (vp_cell (tid 3) _) = some (vp_cell (tid 3) _)
            congr 7
            funext j
            by_cases hj : j < n.toNatClampNeg
            · simp [hj]; omega
            · simp [hj]
          · rw [List.getElem?_append_right (by simp; omega)] at hy
            have h3 : i < σ.length + 1 + n.toNatClampNeg := by
              have := (List.getElem?_eq_some_iff.mp hy).1
              simp at this
              omega
            rw [List.getElem?_replicate, if_pos (by simp; omega)] at hy
            cases hy
            have h9 := f5 (i - σ.length - 1) (by omega)
            rw [show s0 + σ.length + 1 + (i - σ.length - 1) = s0 + i by omega] at h9
            exact h9
      · rw [f6 q (by omega)]
        exact hG.2.1.2.1 q hq1 hq2
      · have := hG.2.2.1
        simp
        omega
      · have := hG.2.2.2
        rw [pm_sz_app, pm_sz_app, hrep]
        simp [pm_sz, pm_s1]
        omega
    · cases h
  · cases h
end PS3
