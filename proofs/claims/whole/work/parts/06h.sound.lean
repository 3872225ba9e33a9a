/-! the pure machine's methods, at every depth of calls; what it answers, the JVM answers -/
/-- the arguments in the locals -/
def pm_spr : List Value → pm_L
  | [] => []
  | v :: t => match Nat.beq v.category 2 with
    | true => some v :: none :: pm_spr t
    | false => some v :: pm_spr t
def pm_pad : Nat → pm_L → pm_L
  | 0, _ => []
  | n + 1, [] => none :: pm_pad n []
  | n + 1, a :: t => a :: pm_pad n t
def pm_lok (lng : List Nat) : Nat → pm_L → Bool
  | _, [] => true
  | i, none :: t => pm_lok lng (i + 1) t
  | i, some v :: t => match Nat.beq v.category 2 with
    | true => pm_isL lng i && pm_lok lng (i + 1) t
    | false => pm_lok lng (i + 1) t
def pm_rc (kind own : Nat) (av : List Value) (σ : pm_H) : Bool := match kind with
  | 0 => true
  | 1 => match av with
    | .ref k :: _ => match σ[k]? with
      | some (.inr (c, _)) => Nat.beq c own && Nat.blt own 9
      | _ => false
    | _ => false
  | _ => match av with
    | .ref _ :: _ => true
    | _ => false
/-- a call at a depth -/
noncomputable def pm_call (L : Nat) (xs : Nat → Int32) : Nat → Nat → List Value → pm_H → Option pm_R
  | 0, _, _, _ => none
  | d + 1, mid, av, σ => match pm_nth pm_mt mid, pm_nth pm_ms mid with
    | some row, some M => match pm_rc row.2.2.2.2.1 row.2.2.2.2.2.2.1 av σ && (Nat.ble (pm_spr av).length row.2.2.1 && pm_lok M.2.2.1 0 (pm_pad row.2.2.1 (pm_spr av))) with
      | true => pm_ev (pm_call L xs d) (pm_od L xs) M 0 (pm_pad row.2.2.1 (pm_spr av)) [] σ
      | false => none
    | _, _ => none
theorem pm_nth_eq {α : Type} : ∀ (l : List α) (k : Nat), pm_nth l k = l[k]?
  | [], _ => by simp [pm_nth]
  | _ :: _, 0 => by simp [pm_nth]
  | _ :: t, k + 1 => by simp [pm_nth, pm_nth_eq t k]
theorem pm_call_le (L : Nat) (xs : Nat → Int32) : ∀ (d a : Nat) (av : List Value) (σ : pm_H) (r : pm_R), pm_call L xs d a av σ = some r → pm_le σ r.2
  | 0, _, _, _, _, h => by cases h
  | d + 1, a, av, σ, r, h => by
    unfold pm_call at h
    split at h
    · split at h
      · obtain ⟨n, hn⟩ := pm_ev_run h
        exact (pm_run_succ (pm_call_le L xs d) n _ _ _ _ r hn).2
      · cases h
    · cases h
theorem pm_rc1 {own : Nat} {av : List Value} {σ : pm_H} (h : pm_rc 1 own av σ = true) : ∃ k fs As, av = .ref k :: As ∧ σ[k]? = some (.inr (own, fs)) ∧ own < 9 := by
  match av, h with
  | .ref k :: As, h =>
    have h2 : (match σ[k]? with
      | some (.inr (c, _)) => Nat.beq c own && Nat.blt own 9
      | _ => false) = true := h
    clear h
    split at h2
    · rename_i c9 fs hk9
      rw [Bool.and_eq_true] at h2
      have e9 := Nat.eq_of_beq_eq_true h2.1
      exact ⟨k, fs, As, rfl, by rw [hk9, ← e9], Nat.le_of_ble_eq_true h2.2⟩
    · cases h2
  | [], h => cases h
  | .int _ :: _, h => cases h
  | .long _ :: _, h => cases h
  | .float _ :: _, h => cases h
  | .double _ :: _, h => cases h
  | .null :: _, h => cases h
  | .retAddr _ :: _, h => cases h
theorem pm_rc2 {own : Nat} {av : List Value} {σ : pm_H} (h : pm_rc 2 own av σ = true) : ∃ k As, av = .ref k :: As := by
  match av, h with
  | .ref k :: As, _ => exact ⟨k, As, rfl⟩
  | [], h => cases h
  | .int _ :: _, h => cases h
  | .long _ :: _, h => cases h
  | .float _ :: _, h => cases h
  | .double _ :: _, h => cases h
  | .null :: _, h => cases h
  | .retAddr _ :: _, h => cases h
theorem pm_own15 : pm_mt.all (fun m => decide (m.2.2.2.2.2.2.1 < 15)) = true := by decide +kernel
def pm_rt (k : Nat) (e : Nat × pm_J) : Bool := match e.2.1 with
  | .lreturn => decide (k = 3)
  | .return_ => decide (k = 0)
  | _ => true
theorem pm_rets : pm_ms.all (fun M => M.2.2.2.all (pm_rt M.2.1)) = true := by decide +kernel
theorem pm_rk3 {ret : Option FieldType} (h : pm_rk ret = 3) : ret = some .long := by
  match ret, h with
  | some .long, _ => rfl
  | none, q => cases q
  | some .int, q => cases q
  | some .boolean, q => cases q
  | some .byte, q => cases q
  | some .char, q => cases q
  | some .short, q => cases q
  | some .float, q => cases q
  | some .double, q => cases q
  | some (.object _), q => cases q
  | some (.array _), q => cases q
theorem pm_rk0 {ret : Option FieldType} (h : pm_rk ret = 0) : ret = none := by
  match ret, h with
  | none, _ => rfl
  | some .long, q => cases q
  | some .int, q => cases q
  | some .boolean, q => cases q
  | some .byte, q => cases q
  | some .char, q => cases q
  | some .short, q => cases q
  | some .float, q => cases q
  | some .double, q => cases q
  | some (.object _), q => cases q
  | some (.array _), q => cases q
theorem pm_cw_all : ∀ (k : Nat) (m : pm_T) (M : pm_M), pm_nth pm_mt k = some m → pm_nth pm_ms k = some M → pm_codeW m M = true := by
  have key : ∀ (ms : List pm_T) (Ms : List pm_M), (ms.zip Ms).all (fun z => pm_codeW z.1 z.2) = true → ∀ (k : Nat) (m : pm_T) (M : pm_M), ms[k]? = some m → Ms[k]? = some M → pm_codeW m M = true := by
    intro ms Ms h k m M hm hM
    have : (ms.zip Ms)[k]? = some (m, M) := by rw [List.getElem?_zip_eq_some]; exact ⟨hm, hM⟩
    exact List.all_eq_true.mp h _ (List.mem_of_getElem? this)
  intro k m M hm hM
  rw [pm_nth_eq] at hm hM
  exact key pm_mt pm_ms pm_cw_zip k m M hm hM
theorem pm_pad_nth : ∀ (n : Nat) (l : pm_L) (i : Nat) (v : Value), pm_nth (pm_pad n l) i = some (some v) → pm_nth l i = some (some v)
  | 0, _, _, _, h => by cases h
  | n + 1, [], 0, v, h => by cases h
  | n + 1, [], i + 1, v, h => by
    have := pm_pad_nth n [] i v h
    cases this
  | n + 1, a :: t, 0, v, h => h
  | n + 1, a :: t, i + 1, v, h => pm_pad_nth n t i v h
theorem pm_spr_args (s0 : Nat) (od : Nat → Nat) : ∀ (av : List Value) (j i : Nat) (v : Value), pm_nth (pm_spr av) i = some (some v) → (j + i, pm_tv s0 od v) ∈ lv_args j (av.map (pm_tv s0 od))
  | [], _, _, _, h => by cases h
  | w :: t, j, i, v, h => by
    unfold pm_spr at h
    simp only [List.map_cons, lv_args, pm_tv_cat]
    cases hb : Nat.beq w.category 2 with
    | true =>
      rw [hb] at h
      rw [if_pos (Nat.eq_of_beq_eq_true hb)]
      match i, h with
      | 0, h => cases h; exact List.mem_cons_self
      | 1, h => cases h
      | i + 2, h =>
        have := pm_spr_args s0 od t (j + 2) i v h
        rw [show j + (i + 2) = j + 2 + i by omega]
        exact List.mem_cons_of_mem _ this
    | false =>
      rw [hb] at h
      rw [if_neg (fun q => by rw [q] at hb; cases hb)]
      match i, h with
      | 0, h => cases h; exact List.mem_cons_self
      | i + 1, h =>
        have := pm_spr_args s0 od t (j + 1) i v h
        rw [show j + (i + 1) = j + 1 + i by omega]
        exact List.mem_cons_of_mem _ this
theorem pm_spr_len (s0 : Nat) (od : Nat → Nat) : ∀ av : List Value, (lg_sl (av.map (pm_tv s0 od))).length = (pm_spr av).length
  | [] => rfl
  | w :: t => by
    have ih := pm_spr_len s0 od t
    unfold lg_sl at ih ⊢
    unfold pm_spr
    simp only [List.map_cons, List.flatMap_cons, List.length_append, pm_tv_cat, ih]
    cases hb : Nat.beq w.category 2 with
    | true => rw [if_pos (Nat.eq_of_beq_eq_true hb)]; simp; omega
    | false => rw [if_neg (fun q => by rw [q] at hb; cases hb)]; simp; omega
theorem pm_lok_at (lng : List Nat) : ∀ (ls : pm_L) (j i : Nat) (v : Value), pm_lok lng j ls = true → pm_nth ls i = some (some v) → v.category = 2 → pm_isL lng (j + i) = true
  | [], _, _, _, _, h, _ => by cases h
  | none :: t, j, 0, v, _, h, _ => by cases h
  | none :: t, j, i + 1, v, hl, h, hc => by
    have := pm_lok_at lng t (j + 1) i v hl h hc
    rw [show j + (i + 1) = j + 1 + i by omega]
    exact this
  | some w :: t, j, i, v, hl, h, hc => by
    unfold pm_lok at hl
    match i, h with
    | 0, h =>
      cases h
      rw [hc] at hl
      simp only [show Nat.beq 2 2 = true from rfl, Bool.and_eq_true] at hl
      exact hl.1
    | i + 1, h =>
      have hl2 : pm_lok lng (j + 1) t = true := by
        cases hb : Nat.beq w.category 2 with
        | true => rw [hb] at hl; simp only [Bool.and_eq_true] at hl; exact hl.2
        | false => rw [hb] at hl; exact hl
      have := pm_lok_at lng t (j + 1) i v hl2 h hc
      rw [show j + (i + 1) = j + 1 + i by omega]
      exact this
section PS6
variable {D : va_G} {s0 : Nat} {od : Nat → Nat} {tid : Nat → ClassId} {L : Nat} {xs : Nat → Int32}
variable {p : Program} {l : Launch} {e : Env} {R : Room} {s : State} {m : MethodId} {args : Array Value} {below : List Frame} {meth : Method} {c : Code} {Q : State → Prop}
variable {M : pm_M} {bytes : ByteArray} {maxL : Nat} {ini : Bool} {L0 Z0 : Nat} {r : pm_R} {call : Nat → List Value → pm_H → Option pm_R} {d0 : Nat}
theorem pm_entry {av : List Value} {n : Nat} {lng : List Nat} (h1 : (pm_spr av).length ≤ n) (h2 : pm_lok lng 0 (pm_pad n (pm_spr av)) = true) : pm_Rel s0 od n lng (pm_pad n (pm_spr av)) ((lg_sl (av.map (pm_tv s0 od)) ++ List.replicate (n - (lg_sl (av.map (pm_tv s0 od))).length) Slot.unset).toArray) := by
  have hl := lv_entry (av.map (pm_tv s0 od)) (n := n) (by rw [pm_spr_len]; exact h1)
  refine ⟨⟨hl.1, hl.2.1, fun q hq => ?_⟩, fun i v hi hc => ?_⟩
  · obtain ⟨j, v, rfl, hj⟩ := pm_asc_of _ _ _ hq
    have := pm_spr_args s0 od av 0 j v (pm_pad_nth _ _ _ _ hj)
    exact hl.2.2 _ this
  · have := pm_lok_at lng _ 0 i v h2 hi hc
    rw [Nat.zero_add] at this
    exact this
theorem pm_sound (hE : pm_E D s0 od tid L xs p s m args meth c M bytes maxL ini L0 R) (hmna : pm_Mna)
    (hcall : pm_Calls l D s0 od tid L xs call d0) (hcm : ∀ a av σ r, call a av σ = some r → pm_le σ r.2) (hRd : d0 + 1 ≤ R.frames ∧ 40 * (d0 + 1) ≤ R.locals) (hRr : r.2.length ≤ R.cells + L0 ∧ pm_sz r.2 ≤ R.slots + Z0)
    (hI : ∀ (pc : Nat) (st : List Value) (σ : pm_H) (LS : Array Slot) (H : Heap) (locs : List Loc) (cells slots : Nat), pm_G D s0 od tid s L0 Z0 σ H locs cells slots → decode bytes pc = .ok (.ireturn, 1) → pm_ret M.2.1 st σ = some r → W p l e R s m args below meth c H locs cells slots Q (F0 m pc LS (st.map (pm_tv s0 od))))
    (hJ : ∀ (pc : Nat) (st : List Value) (σ : pm_H) (LS : Array Slot) (H : Heap) (locs : List Loc) (cells slots : Nat), pm_G D s0 od tid s L0 Z0 σ H locs cells slots → decode bytes pc = .ok (.lreturn, 1) → (∃ j, pm_find M.2.2.2 pc = some (.lreturn, j)) → (∃ x, st = [.long x] ∧ r = (some (.long x), σ)) → W p l e R s m args below meth c H locs cells slots Q (F0 m pc LS (st.map (pm_tv s0 od))))
    (hV : ∀ (pc : Nat) (st : List Value) (σ : pm_H) (LS : Array Slot) (H : Heap) (locs : List Loc) (cells slots : Nat), pm_G D s0 od tid s L0 Z0 σ H locs cells slots → decode bytes pc = .ok (.return_, 1) → (∃ j, pm_find M.2.2.2 pc = some (.return_, j)) → (st = [] ∧ r = (none, σ)) → W p l e R s m args below meth c H locs cells slots Q (F0 m pc LS (st.map (pm_tv s0 od)))) :
    ∀ (n pc : Nat) (ls : pm_L) (st : List Value) (σ : pm_H), pm_run call (pm_od L xs) M n pc ls st σ = some r → ∀ (LS : Array Slot) (H : Heap) (locs : List Loc) (cells slots : Nat), pm_Rel s0 od maxL M.2.2.1 ls LS → pm_G D s0 od tid s L0 Z0 σ H locs cells slots → W p l e R s m args below meth c H locs cells slots Q (F0 m pc LS (st.map (pm_tv s0 od)))
  | 0, _, _, _, _, h => by cases h
  | n + 1, pc, ls, st, σ, h => fun LS H locs cells slots hL hG =>
    pm_step (K := pm_run call (pm_od L xs) M n) hE hmna hcall hRd (fun pc ls st σ h => (pm_run_succ hcm n pc ls st σ r h).2) hRr (fun pc ls st σ h => pm_sound hE hmna hcall hcm hRd hRr hI hJ hV n pc ls st σ h) hI hJ hV h hL hG
end PS6
set_option maxHeartbeats 4000000 in
theorem pm_Met (l : Launch) (D : va_G) (s0 : Nat) (od : Nat → Nat) (tid : Nat → ClassId) (L : Nat) (xs : Nat → Int32) (hmna : pm_Mna) : ∀ d, pm_Calls l D s0 od tid L xs (pm_call L xs d) d
  | 0 => fun mid av σ v τ h => by cases h
  | d + 1 => by
    have ih := pm_Met l D s0 od tid L xs hmna d
    intro mid av σ v τ h row hrow
    have hle := pm_call_le L xs (d + 1) mid av σ (v, τ) h
    unfold pm_call at h
    rw [← pm_nth_eq] at hrow
    split at h
    · rename_i row' M hr' hM
      rw [hrow] at hr'
      cases hr'
      have hcw := pm_cw_all mid row M hrow hM
      rw [pm_nth_eq] at hrow
      obtain ⟨q1, q2, q3, q4, q5, q6, q7, q8, q9, q10, q11⟩ := pm_mt_at hrow
      have hown15 : row.2.2.2.2.2.2.1 < 15 := of_decide_eq_true (List.all_eq_true.mp pm_own15 row (List.mem_of_getElem? hrow))
      have hrets := List.all_eq_true.mp pm_rets M (List.mem_of_getElem? (by rw [pm_nth_eq] at hM; exact hM))
      clear hM hrow
      obtain ⟨y, bytes, maxL, ret, kind, n0, own, p1, p2, p3, p4⟩ := row
      dsimp only at h hown15 q1 q2 q3 q4 q5 q6 q7 q8 q9 q10 q11 ⊢
      unfold pm_codeW at hcw
      dsimp only at hcw
      rw [Bool.and_eq_true, Bool.and_eq_true, decide_eq_true_eq, decide_eq_true_eq] at hcw
      obtain ⟨⟨hM1, hM2⟩, hM3⟩ := hcw
      split at h
      · rename_i hg
        rw [Bool.and_eq_true, Bool.and_eq_true] at hg
        obtain ⟨hg1, hg2, hg3⟩ := hg
        obtain ⟨n, hn⟩ := pm_ev_run h
        refine ⟨hle, ?_, fun hk => ?_, fun hk => ?_⟩
        · refine Met.ofW (cc := bytes) (maxL := maxL) (ret := ret) q7 rfl ?_
          intro p e s m args below meth c s₁ B hml hv
          obtain ⟨rfl, hWd⟩ := hv
          have hts := atoms_spec (ws := Cond.code y bytes maxL ret :: pm_gt) B.pre
          have hown : s.vm.findClass y.cls = some m.cls := findClass_of_methodNamed B.named
          have hlocks := B.notSynchronized
          have hr := B.returns
          have hb := B.bytes
          have hx := B.exec
          have hE : pm_E D s0 od tid L xs p s m ((av.map (pm_tv s0 od)).toArray) meth c M bytes maxL (decide (kind = 2)) σ.length { frames := d + 1, cells := τ.length - σ.length, slots := pm_sz τ - pm_sz σ, locals := 40 * (d + 1) } := by
            refine ⟨hx, hb, hml, by rw [hM1, ← q9]; exact hown, fun w hw => hts w (List.mem_cons_of_mem _ hw), hWd.2.2, hWd.2.1, fun hk => ?_, ?_, fun pc j hj => ?_, by show 1 ≤ d + 1; omega, by show 40 ≤ 40 * (d + 1); omega⟩
            · rw [(name_of_methodNamed B.named B.method).1]
              exact (q4 (of_decide_eq_true hk)).2.1
            · rw [hM1]
              exact hown15
            · have h9 := List.all_eq_true.mp hM3 _ (pm_find_mem hj)
              rw [Bool.and_eq_true, decide_eq_true_eq] at h9
              rw [hM1]
              exact h9
          have hG : pm_G D s0 od tid s σ.length (pm_sz σ) σ s.heap [] 0 0 := ⟨hWd.1, va_S.rf, by omega, by omega⟩
          rw [lg_entry_eq]
          have hRel := pm_entry (s0 := s0) (od := od) (Nat.le_of_ble_eq_true hg2) hg3
          have hexa : ∀ (σ9 : pm_H) (H : Heap) (locs : List Loc) (cells slots : Nat), pm_G D s0 od tid s σ.length (pm_sz σ) σ9 H locs cells slots → H.size ≤ s.heap.size + cells → H.size = s0 + σ9.length := fun σ9 H locs cells slots hG9 hz => pm_exact hWd.2.1 hG9 hz
          refine pm_sound (r := (v, τ)) hE hmna ih (pm_call_le L xs d) ⟨Nat.le_refl _, Nat.le_refl _⟩ ?_ ?_ ?_ ?_ n 0 _ [] σ hn _ _ _ _ _ hRel hG
          · obtain ⟨g1, g2⟩ := hle
            constructor
            · show τ.length ≤ τ.length - σ.length + σ.length
              omega
            · show pm_sz τ ≤ pm_sz τ - pm_sz σ + pm_sz σ
              omega
          · intro pc st σ9 LS H locs cells slots hG9 hdg hret
            rw [hM2] at hret
            unfold pm_ret at hret
            refine pm_Wsz (fun hz => ?_)
            have hez := hexa _ _ _ _ _ hG9 hz
            have hc1 : cells = τ.length - σ.length ∧ slots = pm_sz τ - pm_sz σ ∨ σ9 ≠ τ := by
              by_cases he : σ9 = τ
              · subst he
                obtain ⟨-, -, g3, g4⟩ := hG9
                exact Or.inl ⟨by omega, by omega⟩
              · exact Or.inr he
            split at hret
            · rename_i x hk9
              cases hret
              obtain ⟨rfl, rfl⟩ : cells = τ.length - σ.length ∧ slots = pm_sz τ - pm_sz σ := by
                rcases hc1 with h9 | h9
                · exact h9
                · exact absurd rfl h9
              have hri : ret = some .int := by
                revert hk9
                match ret with
                | none => intro q; cases q
                | some .int => intro _; rfl
                | some .boolean => intro q; cases q
                | some .long => intro q; cases q
                | some .byte => intro q; cases q
                | some .char => intro q; cases q
                | some .short => intro q; cases q
                | some .float => intro q; cases q
                | some .double => intro q; cases q
                | some (.object _) => intro q; cases q
                | some (.array _) => intro q; cases q
              exact W.iret (v := x) hx hb (hr.trans hri) (fun t ht hW => ⟨⟨x, (), rfl, rfl, by rw [ht]; exact hG9.1, by rw [ht]; exact hez⟩, hG9.2.1.F ht⟩) hG9.2.1.2.2 hdg
            · rename_i x hk9
              have hri : ret = some .boolean := by
                revert hk9
                match ret with
                | none => intro q; cases q
                | some .int => intro q; cases q
                | some .boolean => intro _; rfl
                | some .long => intro q; cases q
                | some .byte => intro q; cases q
                | some .char => intro q; cases q
                | some .short => intro q; cases q
                | some .float => intro q; cases q
                | some .double => intro q; cases q
                | some (.object _) => intro q; cases q
                | some (.array _) => intro q; cases q
              split at hret
              · rename_i hx0
                cases hret
                obtain ⟨rfl, rfl⟩ : cells = τ.length - σ.length ∧ slots = pm_sz τ - pm_sz σ := by
                  rcases hc1 with h9 | h9
                  · exact h9
                  · exact absurd rfl h9
                subst hx0
                exact W.zret (v := 0) (ty := .boolean) hx hb (hr.trans hri) (by decide) (fun t ht hW => ⟨⟨0, (), rfl, rfl, by rw [ht]; exact hG9.1, by rw [ht]; exact hez⟩, hG9.2.1.F ht⟩) hG9.2.1.2.2 hdg
              · split at hret
                · rename_i hx1
                  cases hret
                  obtain ⟨rfl, rfl⟩ : cells = τ.length - σ.length ∧ slots = pm_sz τ - pm_sz σ := by
                    rcases hc1 with h9 | h9
                    · exact h9
                    · exact absurd rfl h9
                  subst hx1
                  exact W.zret (v := 1) (ty := .boolean) hx hb (hr.trans hri) (by decide) (fun t ht hW => ⟨⟨1, (), rfl, rfl, by rw [ht]; exact hG9.1, by rw [ht]; exact hez⟩, hG9.2.1.F ht⟩) hG9.2.1.2.2 hdg
                · cases hret
            · cases hret
          · intro pc st σ9 LS H locs cells slots hG9 hdg hfd hret
            obtain ⟨x, rfl, he⟩ := hret
            obtain ⟨j9, hj9⟩ := hfd
            have h3 : M.2.1 = 3 := of_decide_eq_true (List.all_eq_true.mp hrets _ (pm_find_mem hj9))
            cases he
            refine pm_Wsz (fun hz => ?_)
            have hez := hexa _ _ _ _ _ hG9 hz
            obtain ⟨rfl, rfl⟩ : cells = τ.length - σ.length ∧ slots = pm_sz τ - pm_sz σ := by
              obtain ⟨-, -, g3, g4⟩ := hG9
              exact ⟨by omega, by omega⟩
            exact W.lret (v := x) hx hb (hr.trans (pm_rk3 (hM2.symm.trans h3))) (fun t ht hW => ⟨⟨x, (), rfl, rfl, by rw [ht]; exact hG9.1, by rw [ht]; exact hez⟩, hG9.2.1.F ht⟩) hG9.2.1.2.2 hdg
          · intro pc st σ9 LS H locs cells slots hG9 hdg hfd hret
            obtain ⟨rfl, he⟩ := hret
            obtain ⟨j9, hj9⟩ := hfd
            have h3 : M.2.1 = 0 := of_decide_eq_true (List.all_eq_true.mp hrets _ (pm_find_mem hj9))
            cases he
            refine pm_Wsz (fun hz => ?_)
            have hez := hexa _ _ _ _ _ hG9 hz
            obtain ⟨rfl, rfl⟩ : cells = τ.length - σ.length ∧ slots = pm_sz τ - pm_sz σ := by
              obtain ⟨-, -, g3, g4⟩ := hG9
              exact ⟨by omega, by omega⟩
            exact W.vret hx hb (hr.trans (pm_rk0 (hM2.symm.trans h3))) (fun t ht hW => ⟨⟨(), rfl, trivial, by rw [ht]; exact hG9.1, by rw [ht]; exact hez⟩, hG9.2.1.F ht⟩) hG9.2.1.2.2 hdg
        · subst hk
          exact pm_rc1 hg1
        · subst hk
          exact pm_rc2 hg1
      · cases h
    · cases h
