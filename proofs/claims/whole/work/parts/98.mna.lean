/-! new int[n][k] on the model -/
section
variable {E : CtlPost} {e : Env} {d : Bool} {acts : List Action} {s : State}
/-- one array, all its places alike -/
theorem mn_arr {c comp : ClassId} {kl : Class} {ty : FieldType} {n : Nat} {v : Value} (hk : s.vm.classes[c]? = some kl) (hkind : kl.kind = .array comp ty) (h1 : n ≤ e.platform.arrayLengthLimit) (h2 : n * componentBytes ty ≤ e.platform.maxHeapBytes) (hfit : fits ty v = true) (hdef : v.isDefault = true) (h3 : s.heap.size < e.platform.maxCells) (h4 : s.slotsUsed + n ≤ e.platform.maxSlots) {Q : Addr → Pre} (hq : Q s.heap.size d acts (s.pushCell (arrV c n fun _ => v))) : wp (Jvm.newArray c n v) Q E e d acts s := by
  have hfits : ∀ i w, (Array.replicate n v)[i]? = some w → s.fitsSlot c .none i w = true := by
    intro i w hw
    rw [Array.getElem?_replicate] at hw
    by_cases hi : i < n
    · rw [if_pos hi] at hw
      cases hw
      simp [State.fitsSlot, State.slotType?, hk, hkind, hfit]
    · rw [if_neg hi] at hw
      cases hw
  have hall : (Array.replicate n v).all (fun x => x.isDefault) = true := by
    rw [Array.all_replicate]
    split <;> simp [hdef]
  have hda : allocActs (Array.replicate n v) s.heap.size acts = acts := by
    unfold allocActs
    rw [if_pos hall]
  rw [← arrV_new] at hq
  have n1 : ¬ n > e.platform.arrayLengthLimit := Nat.not_lt.mpr h1
  have n2 : ¬ n * componentBytes ty > e.platform.maxHeapBytes := Nat.not_lt.mpr h2
  unfold Jvm.newArray Jvm.arrayFits
  simp only [wp_bind', W.ask, W.ite, n1, if_false, wp_pure', W.theClass, hk, hkind, n2, W.alloc, W.stop, Option.some.injEq, exists_eq_left', Array.size_replicate, hda]
  rw [if_neg (by omega)]
  exact ⟨h3, h4, hfits, hq⟩
/-- the rows one behind another, each put into its place; P: what holds behind i of them -/
theorem mn_two {f : JFrame} {T : State} {cA cI cc : ClassId} {kA kI : Class} {n k : Int32} (hA : T.vm.classes[cA]? = some kA) (hkA : kA.kind = .array cI (.array .int)) (hI : T.vm.classes[cI]? = some kI) (hkI : kI.kind = .array cc .int) (hn : ¬ n < 0) (hk : ¬ k < 0) (l1 : n.toNatClampNeg ≤ e.platform.arrayLengthLimit) (l2 : n.toNatClampNeg * 4 ≤ e.platform.maxHeapBytes) (l3 : k.toNatClampNeg ≤ e.platform.arrayLengthLimit) (l4 : k.toNatClampNeg * 4 ≤ e.platform.maxHeapBytes) (r1 : T.heap.size + 1 + n.toNatClampNeg ≤ e.platform.maxCells) (r2 : T.slotsUsed + n.toNatClampNeg + n.toNatClampNeg * k.toNatClampNeg ≤ e.platform.maxSlots)
    (P : Nat → State → Prop) (o : Nat → Cell) (ho0 : o 0 = arrV cA n.toNatClampNeg fun _ => .null) (ho : ∀ i, (o i).cls = cA ∧ (o i).vm = .none ∧ (o i).slots.size = n.toNatClampNeg) (hos : ∀ i, (o i).setSlot i (.ref (T.heap.size + 1 + i)) = o (i + 1))
    (hP0 : P 0 (T.pushCell (o 0))) (hPs : ∀ i t, i < n.toNatClampNeg → P i t → P (i + 1) ((t.pushCell (arrV cI k.toNatClampNeg fun _ => .int 0)).setCell T.heap.size (o (i + 1)))) (hPf : ∀ i t, P i t → t.vm = T.vm ∧ t.heap.size = T.heap.size + 1 + i ∧ t.heap[T.heap.size]? = some (o i) ∧ t.slotsUsed = T.slotsUsed + n.toNatClampNeg + i * k.toNatClampNeg)
    {Q : Addr → Pre} (hq : ∀ d' acts' t, P n.toNatClampNeg t → Q T.heap.size d' acts' (t.setTop f)) : wp (multianewarray.make cA [n, k]) Q E e d acts (T.setTop f) := by
  have hno : ([k].find? (· < 0)) = none := by simp [hk]
  rw [multianewarray.make]
  simp only [wp_bind', W.ite, hn, if_false, wp_pure', W.theClass, State.vm_setTop, hA, hkA, Option.some.injEq, exists_eq_left']
  refine mn_arr (s := T.setTop f) hA hkA l1 l2 rfl rfl (by show T.heap.size < _; omega) (by show T.slotsUsed + _ ≤ _; have := Nat.zero_le (n.toNatClampNeg * k.toNatClampNeg); omega) ?_
  simp only [hno]
  rw [ite_self, wp_bind', Std.Legacy.Range.forIn_eq_forIn_range', show ([:n.toNatClampNeg] : Std.Legacy.Range).size = n.toNatClampNeg from by simp [Std.Legacy.Range.size]]
  show wp (forIn (List.range' 0 n.toNatClampNeg 1) PUnit.unit _) _ E e d acts _
  refine wp_forIn_inv (fun rest u => ∃ i t, i + rest.length = n.toNatClampNeg ∧ rest = List.range' i rest.length ∧ u = t.setTop f ∧ P i t) _ _ ⟨0, T.pushCell (o 0), by simp, by simp, by rw [ho0]; rfl, hP0⟩ ?_ ?_
  · rintro x rest u d' acts' Q' ⟨i, t, h1, h2, rfl, hP⟩ hnext
    rw [List.length_cons] at h1 h2
    rw [List.range'_succ] at h2
    obtain ⟨rfl, h3⟩ := List.cons.inj h2
    obtain ⟨f1, f2, f3, f4⟩ := hPf x t hP
    obtain ⟨o1, o2, o3⟩ := ho x
    have hx : x < n.toNatClampNeg := by omega
    have hmul : x * k.toNatClampNeg + k.toNatClampNeg ≤ n.toNatClampNeg * k.toNatClampNeg := by
      have := Nat.mul_le_mul_right k.toNatClampNeg (show x + 1 ≤ n.toNatClampNeg from hx)
      rw [Nat.succ_mul] at this
      exact this
    rw [wp_bind', multianewarray.make]
    simp only [wp_bind', W.ite, hk, if_false, wp_pure', W.theClass, State.vm_setTop, f1, hI, hkI, Option.some.injEq, exists_eq_left']
    refine mn_arr (s := t.setTop f) (by show t.vm.classes[cI]? = _; rw [f1]; exact hI) hkI l3 l4 rfl rfl (by show t.heap.size < _; omega) (by show t.slotsUsed + _ ≤ _; omega) ?_
    have hlt : T.heap.size < t.heap.size := by omega
    simp only [wp_bind', W.writeLoc, wp_pure']
    refine ⟨o x, by show (t.pushCell _).heap[T.heap.size]? = _; rw [State.heap_pushCell_of_lt (h := hlt)]; exact f3, by rw [o2]; simp, by rw [o3]; exact hx, ?_, hnext _ _ _ ⟨x + 1, _, by omega, h3, ?_, hPs x t hx hP⟩⟩
    · rw [o1, o2]
      simp [State.fitsSlot, State.slotType?, f1, hA, hkA, fits]
    · have e1 : (t.setTop f).heap.size = T.heap.size + 1 + x := f2
      rw [e1, hos]
      rfl
  · rintro u d' acts' ⟨i, t, h1, -, rfl, hP⟩
    have : i = n.toNatClampNeg := by simpa using h1
    subst this
    simp only [wp_pure']
    exact hq _ _ t hP
end
theorem mn_over {args : Array Value} {s : State} (h : (Cond.arrayOver (.array .int)).before args s = true) : ∃ cI cA kA, s.vm.findClass "[I" = some cI ∧ s.vm.findClass "[[I" = some cA ∧ s.vm.classes[cA]? = some kA ∧ kA.kind = .array cI (.array .int) := by
  unfold Cond.before at h
  simp only [Cond.holds, Cond.value, beq_iff_eq] at h
  cases hc : s.vm.findClass (FieldType.array .int).toString with
  | none => simp [hc] at h
  | some cI =>
    simp only [hc, Option.bind_some, Option.bind_eq_some_iff, Option.map_eq_some_iff] at h
    obtain ⟨cA, hi, kA, hk, hb⟩ := h
    obtain ⟨hlt, hp, -⟩ := Array.findIdx?_eq_some_iff_getElem.mp hi
    rw [(Array.getElem?_eq_some_iff.mp hk).2] at hp
    cases hkind : kA.kind with
    | array cp ty =>
      rw [hkind] at hb hp
      simp at hb hp
      exact ⟨cI, cA, kA, hc, hb.2, hk, by rw [hkind, hp, hb.1]⟩
    | _ => rw [hkind] at hb; simp at hb
theorem mn_updV (f : Nat → Value) (k : Nat) (x : Value) : updV f k x = fun j => if j = k then x else f j := rfl
/-- the outer row behind i inner ones -/
def mn_o (cA : ClassId) (N h0 i : Nat) : Cell := arrV cA N fun j => if j < i then .ref (h0 + 1 + j) else .null
theorem mn_o_s (cA : ClassId) (N h0 i : Nat) : (mn_o cA N h0 i).setSlot i (.ref (h0 + 1 + i)) = mn_o cA N h0 (i + 1) := by
  unfold mn_o
  rw [arrV_store, mn_updV]
  congr 1
  funext j
  by_cases h : j = i
  · subst h; simp
  · by_cases h2 : j < i
    · simp [h, h2, show j < i + 1 by omega]
    · simp [h, h2, show ¬ j < i + 1 by omega]
/-- the state behind i inner rows -/
def mn_t (T : State) (cA cI : ClassId) (N K : Nat) : Nat → State
  | 0 => T.pushCell (mn_o cA N T.heap.size 0)
  | i + 1 => ((mn_t T cA cI N K i).pushCell (arrV cI K fun _ => .int 0)).setCell T.heap.size (mn_o cA N T.heap.size (i + 1))
theorem mn_t_ok {p : Program} {l : Launch} {e : Env} {R : Room} {s : State} {m : MethodId} {args : Array Value} {below : List Frame} {meth : Method} {c : Code} {T : State} {locs : List Loc} {cells slots : Nat} (X : Stand p l e R s m args below meth c T locs cells slots) (cA cI : ClassId) (N K : Nat) : ∀ i, Stand p l e R s m args below meth c (mn_t T cA cI N K i) locs (cells + 1 + i) (slots + N + i * K) ∧ (mn_t T cA cI N K i).vm = T.vm ∧ (mn_t T cA cI N K i).heap.size = T.heap.size + 1 + i ∧ (mn_t T cA cI N K i).heap[T.heap.size]? = some (mn_o cA N T.heap.size i) ∧ (mn_t T cA cI N K i).slotsUsed = T.slotsUsed + N + i * K ∧ (∀ j, j < i → (mn_t T cA cI N K i).heap[T.heap.size + 1 + j]? = some (arrV cI K fun _ => .int 0)) ∧ ∀ q, q < T.heap.size → (mn_t T cA cI N K i).heap[q]? = T.heap[q]?
  | 0 => by
    have hz : (mn_o cA N T.heap.size 0).slots.size = N := arrV_size _ _ _
    refine ⟨?_, rfl, by simp [mn_t], by simp [mn_t], by simp [mn_t, hz], fun j hj => by omega, fun q hq => State.heap_pushCell_of_lt _ _ hq⟩
    have h := X.pushed (mn_o cA N T.heap.size 0)
    rw [hz] at h
    simpa [mn_t] using h
  | i + 1 => by
    obtain ⟨h1, h2, h3, h4, h5, h6, h7⟩ := mn_t_ok X cA cI N K i
    have hz : (arrV cI K fun _ => Value.int 0).slots.size = K := arrV_size _ _ _
    have hlt : T.heap.size < (mn_t T cA cI N K i).heap.size := by omega
    have hc : ((mn_t T cA cI N K i).pushCell (arrV cI K fun _ => .int 0)).heap[T.heap.size]? = some (mn_o cA N T.heap.size i) := by
      rw [State.heap_pushCell_of_lt (h := hlt)]
      exact h4
    refine ⟨?_, h2, ?_, State.heap_setCell_self hc, ?_, fun j hj => ?_, fun q hq => ?_⟩
    · have h := (h1.pushed (arrV cI K fun _ => .int 0)).stored hc i (.ref (T.heap.size + 1 + i))
      rw [hz, mn_o_s] at h
      rw [show slots + N + (i + 1) * K = slots + N + i * K + K by rw [Nat.succ_mul]; omega]
      refine Stand.dropFresh h (fun x hx => ?_)
      have hx2 : x = ⟨T.heap.size, i⟩ := by simpa using hx
      rw [hx2]
      exact X.heapGrown
    · show (((mn_t T cA cI N K i).pushCell _).setCell _ _).heap.size = _
      simp [State.setCell, h3]
      omega
    · show ((mn_t T cA cI N K i).pushCell (arrV cI K fun _ => .int 0)).slotsUsed = _
      simp [h5, hz, Nat.succ_mul]
      omega
    · show (((mn_t T cA cI N K i).pushCell _).setCell T.heap.size _).heap[T.heap.size + 1 + j]? = _
      rw [State.heap_setCell_other (show T.heap.size ≠ T.heap.size + 1 + j by omega)]
      by_cases hj2 : j < i
      · have hl2 : T.heap.size + 1 + j < (mn_t T cA cI N K i).heap.size := by omega
        rw [State.heap_pushCell_of_lt (h := hl2)]
        exact h6 j hj2
      · have : j = i := by omega
        subst this
        rw [← h3]
        exact State.heap_pushCell_size _ _
    · show (((mn_t T cA cI N K i).pushCell _).setCell T.heap.size _).heap[q]? = _
      have hl2 : q < (mn_t T cA cI N K i).heap.size := by omega
      rw [State.heap_setCell_other (Nat.ne_of_gt hq), State.heap_pushCell_of_lt (h := hl2)]
      exact h7 q hq
set_option maxHeartbeats 1000000 in
theorem pm_mna_ok : pm_Mna := by
  intro p l e R s m args below meth c cc H locs cells slots Q pc ls rest own index n k hexec hb hown hlink hAO harr hn hk hN hK hcells hslots hdg kk T hT X
  subst hT
  have hpl : e.platform.magicAccessors = ({} : Platform).magicAccessors := by rw [X.admits.platform]
  obtain ⟨cI, cA, kA, hcI, hcA, hkA, hkindA⟩ := mn_over hAO
  obtain ⟨cI', kI, cp, hcI', hkI, hkindI⟩ := Cond.arrayClass_spec harr
  have e0 : cI' = cI := Option.some.inj (hcI'.symm.trans hcI)
  subst e0
  obtain ⟨c0, hfc0, hcl⟩ := Cond.classLink_spec hown hlink e.platform hpl
  have e1 : cA = c0 := Option.some.inj (hcA.symm.trans hfc0)
  subst e1
  obtain ⟨hg1, hw1, hr1⟩ := State.classEntry (e := e) X.warmed hcl
  generalize T.vm.noted m.cls index (.cls cA) = vm1 at hg1 hw1 hr1
  obtain ⟨kA1, hkA1, hA1⟩ := hw1.alike.2.2 _ _ hkA
  obtain ⟨kI1, hkI1, hI1⟩ := hw1.alike.2.2 _ _ hkI
  have X1 := X.noted hw1
  obtain ⟨hq1, hq2⟩ := X.roomAbove hcells hslots
  have l1 := Launch.admits_arrayLengthLimit X.admits
  have l2 := Launch.admits_maxHeapBytes X.admits
  obtain ⟨t1, t2, t3, t4, t5, t6, t7⟩ := mn_t_ok X1 cA cI' n.toNatClampNeg k.toNatClampNeg n.toNatClampNeg
  have key : ∃ u, Steps p.tables e below ((mn_t (T.setVm vm1) cA cI' n.toNatClampNeg k.toNatClampNeg n.toNatClampNeg).setTop (F0 m (pc + 4) ls (.ref T.heap.size :: rest))) u ∧ Q u := by
    refine kk _ cA cI' hcA hcI t3 ?_ t6 t7 _ rfl t1
    rw [show T.heap.size = (T.setVm vm1).heap.size from rfl, t4, vp_cell_q]
    unfold mn_o
    congr 2
    funext j
    by_cases hj : j < n.toNatClampNeg
    · simp only [hj, if_true]; rfl
    · simp only [hj, if_false]; rfl
  obtain ⟨u, hu, hQ⟩ := key
  refine ⟨u, ?_, hQ⟩
  have hdg2 : decode c.code (F0 m pc ls (.int k :: .int n :: rest)).pc = .ok (.multianewarray index 2, 4) := by rw [hb]; exact hdg
  jvm_step X.here [hexec, hdg2]
  simp only [multianewarray.sem, wp_bind', W.resolveClassAt_links (State.method?_setTop (F0 m pc ls (.int k :: .int n :: rest)) X.here.top) hg1]
  rw [W.popN, if_neg (by decide)]
  refine ⟨F0 m pc ls (.int k :: .int n :: rest), State.topJava?_setTop' (s := T.setVm vm1) _ X.here.top, [.int n, .int k], rest, rfl, rfl, ?_⟩
  simp only [List.mapM_cons, List.mapM_nil, wp_bind', wp_pure']
  have e2 : ((T.setTop (F0 m pc ls (.int k :: .int n :: rest))).setVm vm1).setTop (F0 m pc ls rest) = (T.setVm vm1).setTop (F0 m pc ls rest) := by
    show ((T.setVm vm1).setTop _).setTop _ = _
    rw [State.setTop_setTop]
  show wp _ _ _ _ _ _ (((T.setTop (F0 m pc ls (.int k :: .int n :: rest))).setVm vm1).setTop (F0 m pc ls rest))
  rw [e2]
  refine mn_two (f := F0 m pc ls rest) (T := T.setVm vm1) (kA := kA1) (kI := kI1) (cc := cp) hkA1 (by rw [hA1]; exact hkindA) hkI1 (by rw [hI1]; exact hkindI) hn hk (by omega) (by omega) (by omega) (by omega) (by show T.heap.size + 1 + _ ≤ _; omega) (by show T.slotsUsed + _ + _ ≤ _; omega) (fun i t => t = mn_t (T.setVm vm1) cA cI' n.toNatClampNeg k.toNatClampNeg i) (mn_o cA n.toNatClampNeg (T.setVm vm1).heap.size) rfl (fun i => ⟨rfl, rfl, arrV_size _ _ _⟩) (fun i => mn_o_s _ _ _ _) rfl (fun i t _ ht => by rw [ht]; rfl) (fun i t ht => ?_) (fun d' acts' t ht => ?_)
  · obtain ⟨-, k2, k3, k4, k5, -, -⟩ := mn_t_ok X1 cA cI' n.toNatClampNeg k.toNatClampNeg i
    rw [ht]
    exact ⟨k2, k3, k4, k5⟩
  · subst ht
    simp only [wp_bind', W.mark, W.pushRef, State.topJava?_setTop' _ t1.here.top, Option.some.injEq, exists_eq_left', State.setTop_setTop, State.heap_setTop]
    intro acts
    simp [jvm, t1.here.top]
    exact hu
