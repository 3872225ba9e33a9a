/-! THE CLAIM OUT OF ONE WALK OF THE LAW'S BODY. Your part is whole_start (and what it stands on); all else here is the same for every law, but numbers. -/
def R_law : String := "EggsLastLaw"
def lw_P (b : Addr) (xs : List Int32) (args : Array Value) (s : State) : Prop := args = #[.ref b] ∧ s.IntsAt b xs ∧ xs.length ≤ 3072 ∧ (Jvm.Cond.and given_1 narrow_1).before args s = true
def lw_Q (_ : Array Value) (s : State) (o : Outcome) (t : State) : Prop := o = .returned (some (.int 1)) ∧ Framed s o t [] 600000 7302250
def lw_Z (below : List Frame) (a : Array Value) (s : State) : State → Prop := fun t => ∃ o, t.status = .running ∧ Ended t below o ∧ lw_Q a s o t
/-- the law's own end, with 1 on the stack, nothing written that was there before, its room as the claim has it -/
theorem lw_ret {p : Program} {l : Launch} {e : Env} {s : State} {m : MethodId} {below : List Frame} {meth : Method} {c : Code} {b : Nat} (hx : p.tables.exec = Jvm.exec) (hb : c.code = code) (hr : meth.sig.returnType = ret) (hlocks : meth.locks = false) {pc : Nat} {H : Heap} {ls : Array Slot} (hdg : decode code pc = .ok (.ireturn, 1)) : W p l e room_1 s m #[Value.ref b] below meth c H [] 600000 7302250 (lw_Z below #[Value.ref b] s) (F0 m pc ls [.int 1]) := by
  intro T hT X
  obtain ⟨fs, hret, hrun, hended, hW, hframe⟩ := X.leave (v := some (.int 1)) (hlocks := hlocks) (fun h => by rw [hr] at h; cases h)
  have hmeth' : T.vm.method? m = some meth := X.method'
  refine ⟨T.setFrames fs, ?_, .returned (some (.int 1)), hrun, hended, rfl, ⟨_, rfl⟩, hW, hframe⟩
  jvm_step X.here [X.here.top, hx, hb, hdg, hmeth', hr, ret, narrow_b1]
  (try refine ⟨rfl, ?_⟩); (try refine ⟨rfl, ?_⟩)
  first | (intro acts; rw [hret _ acts rfl rfl rfl]) | rw [hret _ _ rfl rfl rfl]
  exact Steps.refl _
/-- what holds at the law's entry: the machine, the code, the tables' words (any of lw_tbl by 'hts w (by decide +kernel)'), the script of L ints xs at the cell b, what the Statement gives of the start (any of its parts by flat_of_before) -/
def lw_At (p : Program) (s : State) (m : MethodId) (meth : Method) (c : Code) (b L : Nat) (xs : Nat → Int32) : Prop :=
  p.tables.exec = Jvm.exec ∧ c.code = code ∧ meth.sig.returnType = ret ∧ c.maxLocals = 4 ∧ s.vm.findClass R_law = some m.cls ∧ (∀ w ∈ lw_tbl, w.before #[Value.ref b] s = true) ∧ va_X b L xs s s.heap ∧ b < s.heap.size ∧ meth.locks = false ∧ (Jvm.Cond.and given_1 narrow_1).before #[Value.ref b] s = true
theorem pm_eqi {args : Array Value} {s : State} {tm : Term} {z : Int32} (h : (Cond.eq tm (.int z)).before args s = true) : tm.eval args s none [] s = some (.int z) := by
  cases hv : tm.eval args s none [] s with
  | none => simp [Cond.before, Cond.holds, Cond.value, hv] at h
  | some w =>
    have hz : (Term.int z).eval args s none [] s = some (.int z) := rfl
    simp only [Cond.before, Cond.holds, Cond.value, hv, hz] at h
    cases w <;> simp_all
/-- a static row of ints at the start -/
theorem pm_stat {b : Nat} {s : State} {C n : String} {f : Nat → Int32} (hl : (Cond.laysStatic C n "[I").before #[Value.ref b] s = true) (hini : (Cond.initialized C).before #[Value.ref b] s = true) (harr : (Cond.arrayOf (.static C n "[I") .int).before #[Value.ref b] s = true) (hlen : (Cond.eq (.length (.static C n "[I")) (.int 6)).before #[Value.ref b] s = true) (h0 : (Cond.eq (.elem (.static C n "[I") (.int 0)) (.int (f 0))).before #[Value.ref b] s = true) (h1 : (Cond.eq (.elem (.static C n "[I") (.int 1)) (.int (f 1))).before #[Value.ref b] s = true) (h2 : (Cond.eq (.elem (.static C n "[I") (.int 2)) (.int (f 2))).before #[Value.ref b] s = true) (h3 : (Cond.eq (.elem (.static C n "[I") (.int 3)) (.int (f 3))).before #[Value.ref b] s = true) (h4 : (Cond.eq (.elem (.static C n "[I") (.int 4)) (.int (f 4))).before #[Value.ref b] s = true) (h5 : (Cond.eq (.elem (.static C n "[I") (.int 5)) (.int (f 5))).before #[Value.ref b] s = true) : ∃ t, pm_X t 6 f s s.heap ∧ t < s.heap.size ∧ va_Z C n "[I" (.ref t) (pm_A s.heap.size) s s.heap := by
  have hA : ∀ a : Nat, a < s.heap.size → ¬ pm_A s.heap.size a := fun a ha q => by have : s.heap.size ≤ a := q; omega
  obtain ⟨t, ht, cell, g1, g2, g3, g4, g5, g6, g7⟩ := va_Tof (tm := .static C n "[I") (ty := .int) (N := 6) (f := fun j => .int (f j)) (A := pm_A s.heap.size) (by decide) harr (pm_eqi hlen) (fun j hj => by
    rcases (show j = 0 ∨ j = 1 ∨ j = 2 ∨ j = 3 ∨ j = 4 ∨ j = 5 by omega) with rfl | rfl | rfl | rfl | rfl | rfl
    · exact pm_eqi h0
    · exact pm_eqi h1
    · exact pm_eqi h2
    · exact pm_eqi h3
    · exact pm_eqi h4
    · exact pm_eqi h5) hA
  exact ⟨t, ⟨cell, g1, g2, g3, g4, g5, g6⟩, (Array.getElem?_eq_some_iff.mp g1).1, va_Zof hl hini ht hA⟩
theorem pm_arr {s : State} {b : Nat} {ty : FieldType} (h : (Cond.arrayClass ty).before #[Value.ref b] s = true) (hn : ∀ C, ty ≠ .object C) : ∃ cA, ArrOfT s cA ty ∧ va_RA s cA ty := by
  obtain ⟨c, k, comp, h1, h2, h3⟩ := Cond.arrayClass_spec h
  refine ⟨c, fun N z => ⟨(fun k h => by cases h), k, h2, comp, h3⟩, ?_⟩
  cases ty with
  | object C => exact absurd rfl (hn C)
  | _ => exact h1
theorem pm_arr2 {s : State} (h : pm_AO s) : ∃ cA, ArrOfT s cA (.array .int) ∧ va_RA s cA (.array .int) := by
  unfold pm_AO Cond.before at h
  simp only [Cond.holds, Cond.value, beq_iff_eq] at h
  cases hc : s.vm.findClass (FieldType.array .int).toString with
  | none => simp [hc] at h
  | some comp =>
    simp only [hc, Option.bind_some, Option.bind_eq_some_iff, Option.map_eq_some_iff] at h
    obtain ⟨c, hi, k, hk, hb⟩ := h
    cases hkk : k.kind with
    | array comp2 ty =>
      rw [hkk] at hb
      simp only [Bool.and_eq_true, decide_eq_true_eq] at hb
      obtain ⟨rfl, hf⟩ := hb
      exact ⟨c, fun N z => ⟨(fun k h => by cases h), k, hk, comp2, hkk⟩, hf⟩
    | _ => rw [hkk] at hb; cases hb
theorem pm_in_lw {w : Cond} (h : w ∈ pm_gt) : w ∈ lw_tbl := (List.mem_filter.mp h).1
/-- the law out of the pure machine's run -/
def pm_Goal : Prop := ∀ (L : Nat) (xs : Nat → Int32), L ≤ 3072 → ∃ τ : pm_H, pm_ev (pm_call L xs 60) (pm_od L xs) K_law 0 [some (.retAddr 0), none, none, none] [] [] = some (some (.int 1), τ) ∧ τ.length ≤ 600000 ∧ pm_sz τ ≤ 7302250
set_option maxHeartbeats 4000000 in
theorem whole_start_open (hmna : pm_Mna) (hgoal : pm_Goal) {p : Program} {e : Env} {s : State} {m : MethodId} {below : List Frame} {meth : Method} {c : Code} (l : Launch) {b L : Nat} {xs : Nat → Int32} (hL : L ≤ 3072) (C0 : lw_At p s m meth c b L xs) : W p l e room_1 s m #[Value.ref b] below meth c s.heap [] 0 0 (lw_Z below #[Value.ref b] s) (entryFrame m ([Value.ref b] : List Value).toArray 4) := by
  obtain ⟨hx, hb, hr, hml, hown, hts, hX, hbl, hlocks, hgv⟩ := C0
  have hgt : ∀ w ∈ pm_gt, w.before #[Value.ref b] s = true := fun w hw => hts w (pm_in_lw hw)
  have hs := flat_of_before _ hgv
  obtain ⟨t1, hX1, hl1, hZ1⟩ := pm_stat (b := b) (s := s) (C := "EggsLast$Kinds") (n := "PARENT") (f := fun i => ([-1000000, 0, 1, 1, 0, 4] : List Int32).getD i 0) (hts _ (List.mem_of_getElem? (i := 960) (by decide +kernel))) (hts _ (List.mem_of_getElem? (i := 68) (by decide +kernel))) (hs _ (by decide +kernel)) (hs _ (by decide +kernel)) (hs _ (by decide +kernel)) (hs _ (by decide +kernel)) (hs _ (by decide +kernel)) (hs _ (by decide +kernel)) (hs _ (by decide +kernel)) (hs _ (by decide +kernel))
  obtain ⟨t2, hX2, hl2, hZ2⟩ := pm_stat (b := b) (s := s) (C := "EggsLast$Asks") (n := "SIZE_BODIES") (f := fun i => ([10, 11, 12, 11, 13, 14] : List Int32).getD i 0) (hts _ (List.mem_of_getElem? (i := 972) (by decide +kernel))) (hts _ (List.mem_of_getElem? (i := 65) (by decide +kernel))) (hs _ (by decide +kernel)) (hs _ (by decide +kernel)) (hs _ (by decide +kernel)) (hs _ (by decide +kernel)) (hs _ (by decide +kernel)) (hs _ (by decide +kernel)) (hs _ (by decide +kernel)) (hs _ (by decide +kernel))
  obtain ⟨t3, hX3, hl3, hZ3⟩ := pm_stat (b := b) (s := s) (C := "EggsLast$Asks") (n := "MARK_BODIES") (f := fun i => ([20, 21, 24, 22, 23, 23] : List Int32).getD i 0) (hts _ (List.mem_of_getElem? (i := 974) (by decide +kernel))) (hts _ (List.mem_of_getElem? (i := 65) (by decide +kernel))) (hs _ (by decide +kernel)) (hs _ (by decide +kernel)) (hs _ (by decide +kernel)) (hs _ (by decide +kernel)) (hs _ (by decide +kernel)) (hs _ (by decide +kernel)) (hs _ (by decide +kernel)) (hs _ (by decide +kernel))
  have hkn : ∀ k : Nat, ∃ z : ClassId × (Nat → Nat), ∀ q : vw_C, pm_cl[k]? = some q → u_Kn s q.1 q.2.1 q.2.2 z.1 z.2 := by
    intro k
    cases hk : pm_cl[k]? with
    | none => exact ⟨(0, fun _ => 0), fun q h => by cases h⟩
    | some q =>
      obtain ⟨h1, -, -⟩ := pm_CI_ok k q hk
      have hins : ∃ fs, pm_new k = some fs := by
        have h9 := (pm_cl_nm hk).2
        rcases (show k = 0 ∨ k = 1 ∨ k = 2 ∨ k = 3 ∨ k = 4 ∨ k = 5 ∨ k = 6 ∨ k = 7 ∨ k = 8 by omega) with rfl | rfl | rfl | rfl | rfl | rfl | rfl | rfl | rfl <;> exact ⟨_, rfl⟩
      obtain ⟨fs, hfs⟩ := hins
      obtain ⟨rr, ty, hrr, -, -, hin, -, -, -⟩ := pm_NI_ok k fs hfs
      cases hk.symm.trans hrr
      obtain ⟨cC, iS, hKn⟩ := u_known (C := q.1) (T := q.2.1) (N := q.2.2) (n := q.2.2) hgt h1 (hgt _ hin)
      exact ⟨(cC, iS), fun q' h => by cases h; exact hKn⟩
  obtain ⟨D, hD⟩ : ∃ D : va_G, ∀ (k : Nat) (q : vw_C), pm_cl[k]? = some q → u_Kn s q.1 q.2.1 q.2.2 (D.1 k) (D.2 k) := ⟨(fun k => (Classical.choose (hkn k)).1, fun k => (Classical.choose (hkn k)).2), fun k q hq => Classical.choose_spec (hkn k) q hq⟩
  have hAO : pm_AO s := hts (.arrayOver (.array .int)) (List.mem_of_getElem? (i := 88) (by decide +kernel))
  have hAS : va_AO "EggsLast$Shop" s := va_AO.of (hts (.arrayOver (.object "EggsLast$Shop")) (List.mem_of_getElem? (i := 197) (by decide +kernel)))
  obtain ⟨c0, a0, b0⟩ := pm_arr (ty := .int) (hts _ (List.mem_of_getElem? (i := 100) (by decide +kernel))) (fun C h => by cases h)
  obtain ⟨c1, a1, b1⟩ := pm_arr (ty := .boolean) (hts _ (List.mem_of_getElem? (i := 1100) (by decide +kernel))) (fun C h => by cases h)
  obtain ⟨c3, a3, b3⟩ := pm_arr2 hAO
  obtain ⟨c2, a2, b2⟩ : ∃ cA, ArrOfT s cA (.object "EggsLast$Shop") ∧ va_RA s cA (.object "EggsLast$Shop") := by
    obtain ⟨comp, c9, k, h1, h2, h3, h4, h5⟩ := Cond.arrayOver_spec hAS
    exact ⟨c9, fun N z => ⟨(fun k h => by cases h), k, h3, comp, h4⟩, k, comp, h3, h4, h1, h5⟩
  let tid : Nat → ClassId := fun j => if j = 0 then c0 else if j = 1 then c1 else if j = 2 then c2 else c3
  let od : Nat → Nat := fun j => if j = 0 then b else if j = 1 then t1 else if j = 2 then t2 else t3
  have hK : va_K D pm_cl (pm_tys tid) s := by
    refine ⟨hD, fun k q hq => ?_⟩
    match k, hq with
    | 0, h => cases h; exact ⟨a0, b0⟩
    | 1, h => cases h; exact ⟨a1, b1⟩
    | 2, h => cases h; exact ⟨a2, b2⟩
    | 3, h => cases h; exact ⟨a3, b3⟩
    | k + 4, h => simp at h
  have hW0 : pm_W0 D s.heap.size od tid L xs s s.heap := by
    refine ⟨hK, fun j n f hj => ?_, fun j h1 h2 => ?_, fun w hw hn => ?_, hAS, hAO⟩
    · match j, hj with
      | 0, h =>
        cases h
        obtain ⟨scr, g1, g2, g3, g4, g5⟩ := hX
        exact ⟨⟨scr, g1, g2, g3, by omega, by rw [g4], g5⟩, hbl⟩
      | 1, h => cases h; exact ⟨hX1, hl1⟩
      | 2, h => cases h; exact ⟨hX2, hl2⟩
      | 3, h => cases h; exact ⟨hX3, hl3⟩
      | k + 4, h => cases h
    · rcases (show j = 1 ∨ j = 2 ∨ j = 3 by omega) with rfl | rfl | rfl
      · exact hZ1
      · exact hZ2
      · exact hZ3
    · have h9 := hts w hw
      cases w <;> first | exact va_Nw.of rfl h9 | cases hn
  obtain ⟨τ, hev, hτ1, hτ2⟩ := hgoal L xs hL
  obtain ⟨n, hn⟩ := pm_ev_run hev
  have hE : pm_E D s.heap.size od tid L xs p s m #[Value.ref b] meth c K_law code 4 false 0 room_1 := by
    refine ⟨hx, hb, hml, hown, hgt, hW0, rfl, (fun h => by cases h), by decide, fun pc j hj => ?_, by decide, by decide⟩
    have h9 := List.all_eq_true.mp pm_law_ok _ (pm_find_mem hj)
    unfold pm_lawE at h9
    rw [Bool.and_eq_true, decide_eq_true_eq] at h9
    exact h9
  have hG : pm_G D s.heap.size od tid s 0 0 [] s.heap [] 0 0 := ⟨fun k q h => by simp [pm_ws] at h, va_S.rf, rfl, rfl⟩
  have hmap : ([Value.ref b] : List Value) = ([Value.retAddr 0] : List Value).map (pm_tv s.heap.size od) := rfl
  rw [hmap, lg_entry_eq]
  have hRel := pm_entry (s0 := s.heap.size) (od := od) (av := [.retAddr 0]) (n := 4) (lng := K_law.2.2.1) (by decide) (by decide)
  refine pm_sound (r := (some (.int 1), τ)) hE hmna (pm_Met l D s.heap.size od tid L xs hmna 60) (pm_call_le L xs 60) ⟨by decide, by decide⟩ ⟨hτ1, hτ2⟩ ?_ ?_ ?_ n 0 _ [] [] hn _ _ _ _ _ hRel hG
  · intro pc st σ9 LS H locs cells slots hG9 hdg hret
    have hret2 : pm_ret 2 st σ9 = some (some (.int 1), τ) := hret
    clear hret
    unfold pm_ret at hret2
    split at hret2
    · rename_i h9; cases h9
    · split at hret2
      · rename_i h9; cases hret2
      · split at hret2
        · rename_i hx1
          cases hret2
          subst hx1
          refine W.widen (k := 600000) (n := 7302250) (by have := hG9.2.2.1; omega) (by have := hG9.2.2.2; omega) ?_
          refine va_forget (fun q hq => hG9.2.1.2.2 q hq) ?_
          exact lw_ret hx hb hr hlocks hdg
        · cases hret2
    · cases hret2
  · intro pc st σ9 LS H locs cells slots hG9 hdg hfd hret
    obtain ⟨x, -, h9⟩ := hret
    cases h9
  · intro pc st σ9 LS H locs cells slots hG9 hdg hfd hret
    obtain ⟨-, h9⟩ := hret
    cases h9
