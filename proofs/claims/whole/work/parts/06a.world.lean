/-! the pure heap in the JVM's: cell k lies at s0 + k; a reference to an old row j (the script, three static rows) is .retAddr j, at od j -/
def pm_tv (s0 : Nat) (od : Nat → Nat) (v : Value) : Value := match v with
  | .ref k => .ref (s0 + k)
  | .retAddr j => .ref (od j)
  | w => w
def pm_te (s0 : Nat) (od : Nat → Nat) (tid : Nat → ClassId) (e : va_E) : va_E := match e with
  | .inl (t, n, .inr (.inr (.inr (.inr f)))) => .inl (tid t, n, .inr (.inr (.inr (.inr fun j => (f j).map fun k => s0 + k))))
  | .inl (t, x) => .inl (tid t, x)
  | .inr (c, fs) => .inr (c, fs.map (pm_tv s0 od))
def pm_ws (s0 : Nat) (od : Nat → Nat) (tid : Nat → ClassId) (σ : pm_H) : va_W := σ.mapIdx fun k e => (s0 + k, pm_te s0 od tid e)
abbrev pm_A (s0 : Nat) : Nat → Prop := fun q => s0 ≤ q
abbrev pm_tys (tid : Nat → ClassId) : List (ClassId × FieldType) := [(tid 0, .int), (tid 1, .boolean), (tid 2, .object "EggsLast$Shop"), (tid 3, .array .int)]
section
variable {s0 : Nat} {od : Nat → Nat} {tid : Nat → ClassId}
theorem pm_tv_cat (v : Value) : (pm_tv s0 od v).category = v.category := by cases v <;> rfl
theorem pm_ws_at {σ : pm_H} {k : Nat} {e : va_E} (h : σ[k]? = some e) : (pm_ws s0 od tid σ)[k]? = some (s0 + k, pm_te s0 od tid e) := by
  unfold pm_ws
  rw [List.getElem?_mapIdx, h]
  rfl
theorem pm_ws_of {σ : pm_H} {k : Nat} {x : Nat × va_E} (h : (pm_ws s0 od tid σ)[k]? = some x) : ∃ e, σ[k]? = some e ∧ x = (s0 + k, pm_te s0 od tid e) := by
  unfold pm_ws at h
  rw [List.getElem?_mapIdx] at h
  cases hk : σ[k]? with
  | none => rw [hk] at h; cases h
  | some e => rw [hk] at h; exact ⟨e, rfl, (Option.some.inj h).symm⟩
theorem pm_ws_set (σ : pm_H) (k : Nat) (e : va_E) : (pm_ws s0 od tid σ).set k (s0 + k, pm_te s0 od tid e) = pm_ws s0 od tid (σ.set k e) := by
  apply List.ext_getElem?
  intro i
  by_cases hi : k = i
  · subst hi
    by_cases hl : k < σ.length
    · rw [List.getElem?_set_self (by simpa [pm_ws] using hl), pm_ws_at (e := e) (by rw [List.getElem?_set_self hl])]
    · rw [List.getElem?_eq_none (by simp [pm_ws]; omega), List.getElem?_eq_none (by simp [pm_ws]; omega)]
  · rw [List.getElem?_set_ne hi]
    unfold pm_ws
    rw [List.getElem?_mapIdx, List.getElem?_mapIdx, List.getElem?_set_ne hi]
theorem pm_ws_len (σ : pm_H) : (pm_ws s0 od tid σ).length = σ.length := by simp [pm_ws]
theorem pm_ws_app (σ : pm_H) (e : va_E) : pm_ws s0 od tid (σ ++ [e]) = pm_ws s0 od tid σ ++ [(s0 + σ.length, pm_te s0 od tid e)] := by
  unfold pm_ws
  rw [List.mapIdx_append]
  simp
theorem pm_ws_D (σ : pm_H) : va_D (pm_A s0) (pm_ws s0 od tid σ) := by
  refine ⟨fun i j x y hi hj hxy => ?_, fun k x hk => ?_⟩
  · obtain ⟨e, -, rfl⟩ := pm_ws_of hi
    obtain ⟨e', -, rfl⟩ := pm_ws_of hj
    have : s0 + i = s0 + j := hxy
    omega
  · obtain ⟨e, -, rfl⟩ := pm_ws_of hk
    show s0 ≤ s0 + k
    omega
end
/-- what the old rows hold: the script, and the three static rows -/
def pm_od (L : Nat) (xs : Nat → Int32) : Nat → Option (Nat × (Nat → Int32))
  | 0 => some (L, xs)
  | 1 => some (6, fun i => ([-1000000, 0, 1, 1, 0, 4] : List Int32).getD i 0)
  | 2 => some (6, fun i => ([10, 11, 12, 11, 13, 14] : List Int32).getD i 0)
  | 3 => some (6, fun i => ([20, 21, 24, 22, 23, 23] : List Int32).getD i 0)
  | _ => none
/-- words that the tables keep, though they are no good words -/
def pm_nw : Cond → Bool
  | .fieldLinkNest .. => true
  | .methodLinkNest .. => true
  | _ => false
def pm_AO (U : State) : Prop := (Cond.arrayOver (.array .int)).before #[] U = true
theorem pm_AO.moved {u U : State} (hvm : u.vm.Alike U.vm) (h : pm_AO u) : pm_AO U := by
  unfold pm_AO Cond.before Cond.holds at h ⊢
  simp only [Cond.value] at h ⊢
  simp only [hvm.findClass]
  cases h1 : u.vm.findClass (FieldType.array .int).toString with
  | none => rw [h1] at h; simp at h
  | some comp =>
    rw [h1] at h
    simp only [Option.bind_some] at h ⊢
    have hi : (U.vm.classes.findIdx? fun (x : Class) => match x.kind with | .array component _ => component == comp | _ => false) = (u.vm.classes.findIdx? fun (x : Class) => match x.kind with | .array component _ => component == comp | _ => false) := by
      have hbe : U.vm.bare = u.vm.bare := by first | exact hvm.bare_eq | exact hvm.bare_eq.symm
      have h9 := va_idx_bare U.vm comp
      rw [hbe] at h9
      exact h9.symm.trans (va_idx_bare u.vm comp)
    cases h2 : (u.vm.classes.findIdx? fun (x : Class) => match x.kind with | .array component _ => component == comp | _ => false) with
    | none => 
      have h' : ((u.vm.classes.findIdx? fun (x : Class) => match x.kind with | .array component _ => component == comp | _ => false).bind fun c => (u.vm.classes[c]?).map fun (k : Class) => match k.kind with | .array _ ty => decide (ty = FieldType.array .int) && decide (u.vm.findClass ("[" ++ (FieldType.array .int).toString) = some c) | _ => false) = some true := eq_of_beq h
      rw [h2] at h'
      cases h'
    | some c =>
      have h' : ((u.vm.classes.findIdx? fun (x : Class) => match x.kind with | .array component _ => component == comp | _ => false).bind fun c => (u.vm.classes[c]?).map fun (k : Class) => match k.kind with | .array _ ty => decide (ty = FieldType.array .int) && decide (u.vm.findClass ("[" ++ (FieldType.array .int).toString) = some c) | _ => false) = some true := eq_of_beq h
      rw [h2, Option.bind_some] at h'
      cases h3 : u.vm.classes[c]? with
      | none => rw [h3] at h'; cases h'
      | some k =>
        rw [h3, Option.map_some] at h'
        obtain ⟨k', hk', he⟩ := hvm.2.2 _ _ h3
        have hkind : k'.kind = k.kind := by rw [he]
        refine (congrArg (fun o : Option Nat => (o.bind (fun c => (U.vm.classes[c]?).map fun (k : Class) => match k.kind with | .array _ ty => decide (ty = FieldType.array .int) && decide (u.vm.findClass ("[" ++ (FieldType.array .int).toString) = some c) | _ => false) == some true)) (hi.trans h2)).trans ?_
        simp only [Option.bind_some, hk', Option.map_some, hkind]
        rw [h']
        rfl
/-- an old row of ints -/
def pm_X (b n : Nat) (f : Nat → Int32) (U : State) (H : Heap) : Prop := ∃ cell : Cell, H[b]? = some cell ∧ U.isArrayOf cell .int ∧ cell.vm ≠ .unknown ∧ n ≤ cell.slots.size ∧ cell.slots.size.toInt32 = Int32.ofNat n ∧ ∀ j : Nat, j < n → cell.slots[j]? = some (.int (f j))
theorem pm_X.moved {b n : Nat} {f : Nat → Int32} {u U : State} {H : Heap} (hvm : u.vm.Alike U.vm) (h : pm_X b n f u H) : pm_X b n f U H := by
  obtain ⟨cell, h1, h2, h3⟩ := h
  exact ⟨cell, h1, State.isArrayOf_alike hvm h2, h3⟩
theorem pm_X.kept {b n : Nat} {f : Nat → Int32} {U : State} {H H1 : Heap} (h : pm_X b n f U H) (hq : H1[b]? = H[b]?) : pm_X b n f U H1 := by
  obtain ⟨cell, h1, h2⟩ := h
  exact ⟨cell, by rw [hq]; exact h1, h2⟩
/-- what holds of the machine beside the new cells -/
def pm_W0 (D : va_G) (s0 : Nat) (od : Nat → Nat) (tid : Nat → ClassId) (L : Nat) (xs : Nat → Int32) (U : State) (H : Heap) : Prop :=
  va_K D pm_cl (pm_tys tid) U ∧ (∀ j n f, pm_od L xs j = some (n, f) → pm_X (od j) n f U H ∧ od j < s0) ∧ (∀ j, 1 ≤ j → j ≤ 3 → va_Z (pm_sn j).1 (pm_sn j).2 "[I" (.ref (od j)) (pm_A s0) U H) ∧ (∀ w ∈ lw_tbl, pm_nw w = true → va_Nw w U) ∧ va_AO "EggsLast$Shop" U ∧ pm_AO U
section
variable {D : va_G} {s0 : Nat} {od : Nat → Nat} {tid : Nat → ClassId} {L : Nat} {xs : Nat → Int32}
theorem pm_W0.warm {s U : State} {H : Heap} (h : pm_W0 D s0 od tid L xs s H) (hW : s.WarmedH U.vm) : pm_W0 D s0 od tid L xs U H := by
  obtain ⟨h1, h2, h3, h4, h5, h6⟩ := h
  have ha : s.vm.Alike U.vm := hW.alike
  refine ⟨va_K.moved ha h1, fun j n f hj => ⟨pm_X.moved ha (h2 j n f hj).1, (h2 j n f hj).2⟩, fun j a b => va_Z.moved ha (h3 j a b), fun w hw hn => ?_, va_AO.moved ha h5, pm_AO.moved ha h6⟩
  have hz := h4 w hw hn
  cases w <;> first | exact va_Nw.warmF hW hz | exact va_Nw.warmM hW hz | cases hn
theorem pm_W0.same {u U : State} {H : Heap} (h : pm_W0 D s0 od tid L xs u H) (hvm : u.vm = U.vm) : pm_W0 D s0 od tid L xs U H := by
  obtain ⟨h1, h2, h3, h4, h5, h6⟩ := h
  have ha : u.vm.Alike U.vm := hvm ▸ Vm.Alike.refl u.vm
  refine ⟨va_K.moved ha h1, fun j n f hj => ⟨pm_X.moved ha (h2 j n f hj).1, (h2 j n f hj).2⟩, fun j a b => va_Z.moved ha (h3 j a b), fun w hw hn => ?_, va_AO.moved ha h5, pm_AO.moved ha h6⟩
  have hz := h4 w hw hn
  cases w <;> first | exact va_Nw.same rfl hvm hz | cases hn
theorem pm_W0.kept {U : State} {H H1 : Heap} (h : pm_W0 D s0 od tid L xs U H) (hs : s0 ≤ H.size) (hk : ∀ q : Nat, q < H.size → ¬ pm_A s0 q → H1[q]? = H[q]?) : pm_W0 D s0 od tid L xs U H1 := by
  obtain ⟨h1, h2, h3, h4, h5, h6⟩ := h
  refine ⟨h1, fun j n f hj => ?_, fun j a b => (h3 j a b).kept hk, h4, h5, h6⟩
  obtain ⟨g1, g2⟩ := h2 j n f hj
  exact ⟨g1.kept (hk _ (by omega) (by show ¬ s0 ≤ od j; omega)), g2⟩
end
/-- the world of a call: the pure heap, and all that stays -/
def pm_Wd (D : va_G) (s0 : Nat) (od : Nat → Nat) (tid : Nat → ClassId) (L : Nat) (xs : Nat → Int32) (σ : pm_H) (U : State) : Prop :=
  va_P D pm_cl (pm_ws s0 od tid σ) U.heap ∧ U.heap.size = s0 + σ.length ∧ pm_W0 D s0 od tid L xs U U.heap
/-- the new heap behind a call -/
def pm_Hd (D : va_G) (s0 : Nat) (od : Nat → Nat) (tid : Nat → ClassId) (σ : pm_H) (t : State) : Prop :=
  va_P D pm_cl (pm_ws s0 od tid σ) t.heap ∧ t.heap.size = s0 + σ.length
theorem pm_blind {D : va_G} {s0 : Nat} {od : Nat → Nat} {tid : Nat → ClassId} {L : Nat} {xs : Nat → Int32} {av : List Value} {σ : pm_H} : FrameBlind (va_Pc av (pm_Wd D s0 od tid L xs σ)) := by
  intro a U g mk q
  obtain ⟨q1, q2, q3, q4⟩ := q
  exact ⟨q1, q2, q3, q4.same (U := U.calling g mk a) rfl⟩
def pm_Q (D : va_G) (s0 : Nat) (od : Nat → Nat) (tid : Nat → ClassId) (v : Option Value) (σ : pm_H) : Array Value → State → Outcome → State → Prop := match v with
  | none => va_Qv (fun _ : Unit => True) (fun _ t => pm_Hd D s0 od tid σ t) (pm_A s0)
  | some (.int x) => va_Qi (fun r (_ : Unit) => r = x) (fun _ t => pm_Hd D s0 od tid σ t) (pm_A s0)
  | some (.long x) => va_Ql (fun r (_ : Unit) => r = x) (fun _ t => pm_Hd D s0 od tid σ t) (pm_A s0)
  | _ => fun _ _ _ _ => False
-- locals
/-- the locals of the pure machine in the JVM's -/
def pm_asc (s0 : Nat) (od : Nat → Nat) : Nat → pm_L → List (Nat × Value)
  | _, [] => []
  | i, none :: t => pm_asc s0 od (i + 1) t
  | i, some v :: t => (i, pm_tv s0 od v) :: pm_asc s0 od (i + 1) t
theorem pm_asc_mem {s0 : Nat} {od : Nat → Nat} : ∀ (ls : pm_L) (i j : Nat) (v : Value), pm_nth ls j = some (some v) → (i + j, pm_tv s0 od v) ∈ pm_asc s0 od i ls
  | [], _, _, _, h => by cases h
  | none :: t, i, 0, v, h => by cases h
  | some w :: t, i, 0, v, h => by cases h; exact List.mem_cons_self
  | none :: t, i, j + 1, v, h => by
    have := pm_asc_mem (s0 := s0) (od := od) t (i + 1) j v h
    rw [show i + (j + 1) = i + 1 + j by omega]
    exact this
  | some w :: t, i, j + 1, v, h => by
    have := pm_asc_mem (s0 := s0) (od := od) t (i + 1) j v h
    rw [show i + (j + 1) = i + 1 + j by omega]
    exact List.mem_cons_of_mem _ this
theorem pm_asc_of {s0 : Nat} {od : Nat → Nat} : ∀ (ls : pm_L) (i : Nat) (x : Nat × Value), x ∈ pm_asc s0 od i ls → ∃ j v, x = (i + j, pm_tv s0 od v) ∧ pm_nth ls j = some (some v)
  | [], _, _, h => by cases h
  | none :: t, i, x, h => by
    obtain ⟨j, v, h1, h2⟩ := pm_asc_of t (i + 1) x h
    exact ⟨j + 1, v, by rw [h1]; congr 1; omega, h2⟩
  | some w :: t, i, x, h => by
    rcases List.mem_cons.mp h with rfl | h
    · exact ⟨0, w, rfl, rfl⟩
    · obtain ⟨j, v, h1, h2⟩ := pm_asc_of t (i + 1) x h
      exact ⟨j + 1, v, by rw [h1]; congr 1; omega, h2⟩
theorem pm_nth_set {α : Type} : ∀ (l : List α) (k j : Nat) (v : α), pm_nth (pm_set l k v) j = if j = k then (if k < l.length then some v else none) else pm_nth l j
  | [], k, j, v => by
    show pm_nth [] j = _
    by_cases h : j = k <;> simp [h, pm_nth]
  | a :: t, 0, 0, v => by simp [pm_set, pm_nth]
  | a :: t, 0, j + 1, v => by simp [pm_set, pm_nth]
  | a :: t, k + 1, 0, v => by simp [pm_set, pm_nth]
  | a :: t, k + 1, j + 1, v => by
    show pm_nth (pm_set t k v) j = _
    rw [pm_nth_set t k j v]
    by_cases h : j = k <;> simp [h, pm_nth]
theorem pm_set_len {α : Type} : ∀ (l : List α) (k : Nat) (v : α), (pm_set l k v).length = l.length
  | [], _, _ => rfl
  | _ :: _, 0, _ => rfl
  | a :: t, k + 1, v => by simp [pm_set, pm_set_len t k v]
def pm_Rel (s0 : Nat) (od : Nat → Nat) (nL : Nat) (lng : List Nat) (ls : pm_L) (LS : Array Slot) : Prop := lv_has LS nL (pm_asc s0 od 0 ls) ∧ ∀ i v, pm_nth ls i = some (some v) → v.category = 2 → pm_isL lng i = true
section
variable {s0 : Nat} {od : Nat → Nat} {nL : Nat} {lng : List Nat} {ls : pm_L} {LS : Array Slot}
theorem pm_Rel.at (h : pm_Rel s0 od nL lng ls LS) {i : Nat} {v : Value} (hi : pm_nth ls i = some (some v)) : LS[i]? = some (.val (pm_tv s0 od v)) := by
  have := pm_asc_mem (s0 := s0) (od := od) ls 0 i v hi
  rw [Nat.zero_add] at this
  exact h.1.2.2 _ this
/-- what a write of a place leaves -/
theorem pm_sv_key (hc2 : ∀ i v, pm_nth ls i = some (some v) → v.category = 2 → pm_isL lng i = true) (i : Nat) (v : Value) (j : Nat) (w : Value) (hj : pm_nth (pm_sv lng ls i v) j = some (some w)) : (j = i ∧ w = v) ∨ (j ≠ i ∧ pm_nth ls j = some (some w) ∧ (j + 1 = i → ¬ w.category = 2)) := by
  cases i with
  | zero =>
    simp only [pm_sv] at hj
    rw [pm_nth_set] at hj
    by_cases e : j = 0
    · rw [if_pos e] at hj
      split at hj
      · cases hj; exact Or.inl ⟨e, rfl⟩
      · cases hj
    · rw [if_neg e] at hj
      exact Or.inr ⟨e, hj, fun q => by omega⟩
  | succ i =>
    simp only [pm_sv] at hj
    cases hl : pm_isL lng i with
    | true =>
      rw [hl] at hj
      dsimp only at hj
      cases h2 : pm_is2 ls i with
      | true =>
        rw [h2] at hj
        dsimp only at hj
        rw [pm_nth_set] at hj
        by_cases e : j = i + 1
        · rw [if_pos e] at hj
          split at hj
          · cases hj; exact Or.inl ⟨e, rfl⟩
          · cases hj
        · rw [if_neg e, pm_nth_set] at hj
          by_cases e2 : j = i
          · rw [if_pos e2] at hj
            split at hj <;> cases hj
          · rw [if_neg e2] at hj
            exact Or.inr ⟨e, hj, fun q => absurd (by omega) e2⟩
      | false =>
        rw [h2] at hj
        dsimp only at hj
        rw [pm_nth_set] at hj
        by_cases e : j = i + 1
        · rw [if_pos e] at hj
          split at hj
          · cases hj; exact Or.inl ⟨e, rfl⟩
          · cases hj
        · rw [if_neg e] at hj
          refine Or.inr ⟨e, hj, fun q q2 => ?_⟩
          have e3 : j = i := by omega
          subst e3
          unfold pm_is2 at h2
          rw [hj] at h2
          dsimp only at h2
          rw [q2] at h2
          cases h2
    | false =>
      rw [hl] at hj
      dsimp only at hj
      rw [pm_nth_set] at hj
      by_cases e : j = i + 1
      · rw [if_pos e] at hj
        split at hj
        · cases hj; exact Or.inl ⟨e, rfl⟩
        · cases hj
      · rw [if_neg e] at hj
        refine Or.inr ⟨e, hj, fun q q2 => ?_⟩
        have e3 : j = i := by omega
        subst e3
        have := hc2 _ _ hj q2
        rw [hl] at this
        cases this
/-- a value of one place is written -/
theorem pm_Rel.put (h : pm_Rel s0 od nL lng ls LS) {i : Nat} {v : Value} (hv : v.category = 1) {LS' : Array Slot} (h' : lv_has LS' nL ((i, pm_tv s0 od v) :: (pm_asc s0 od 0 ls).filter (fun q => !(q.1 == i) && !(q.1 + 1 == i && q.2.category == 2)))) : pm_Rel s0 od nL lng (pm_sv lng ls i v) LS' := by
  have key := pm_sv_key h.2 i v
  refine ⟨⟨h'.1, h'.2.1, fun x hx => ?_⟩, fun j w hj hc => ?_⟩
  · obtain ⟨j, w, rfl, hj⟩ := pm_asc_of _ _ _ hx
    rw [Nat.zero_add]
    rcases key j w hj with ⟨rfl, rfl⟩ | ⟨e, hj, hq⟩
    · exact h'.2.2 _ List.mem_cons_self
    · refine h'.2.2 (j, pm_tv s0 od w) (List.mem_cons_of_mem _ (List.mem_filter.mpr ⟨?_, ?_⟩))
      · have := pm_asc_mem (s0 := s0) (od := od) ls 0 j w hj
        rwa [Nat.zero_add] at this
      · simp only [pm_tv_cat]
        by_cases e2 : j + 1 = i
        · have h2 := hq e2
          simp [e, e2, h2]
        · simp [e, e2]
  · rcases key j w hj with ⟨rfl, rfl⟩ | ⟨e, hj, -⟩
    · rw [hv] at hc; cases hc
    · exact h.2 j w hj hc
/-- a long is written -/
theorem pm_Rel.putl (h : pm_Rel s0 od nL lng ls LS) {i : Nat} {x : Int64} (hi : pm_isL lng i = true) {LS' : Array Slot} (h' : lv_has LS' nL ((i, Value.long x) :: (pm_asc s0 od 0 ls).filter (fun q => !(q.1 == i) && (!(q.1 == i + 1) && !(q.1 + 1 == i && q.2.category == 2))))) : pm_Rel s0 od nL lng (pm_set (pm_sv lng ls i (.long x)) (i + 1) none) LS' := by
  have key : ∀ j w, pm_nth (pm_set (pm_sv lng ls i (.long x)) (i + 1) none) j = some (some w) → (j = i ∧ w = .long x) ∨ (j ≠ i ∧ j ≠ i + 1 ∧ pm_nth ls j = some (some w) ∧ (j + 1 = i → ¬ w.category = 2)) := by
    intro j w hj
    rw [pm_nth_set] at hj
    by_cases e1 : j = i + 1
    · rw [if_pos e1] at hj
      split at hj <;> cases hj
    · rw [if_neg e1] at hj
      rcases pm_sv_key h.2 i (.long x) j w hj with q | ⟨q1, q2, q3⟩
      · exact Or.inl q
      · exact Or.inr ⟨q1, e1, q2, q3⟩
  refine ⟨⟨h'.1, h'.2.1, fun x hx => ?_⟩, fun j w hj hc => ?_⟩
  · obtain ⟨j, w, rfl, hj⟩ := pm_asc_of _ _ _ hx
    rw [Nat.zero_add]
    rcases key j w hj with ⟨rfl, rfl⟩ | ⟨e, e1, hj, hq⟩
    · exact h'.2.2 _ List.mem_cons_self
    · refine h'.2.2 (j, pm_tv s0 od w) (List.mem_cons_of_mem _ (List.mem_filter.mpr ⟨?_, ?_⟩))
      · have := pm_asc_mem (s0 := s0) (od := od) ls 0 j w hj
        rwa [Nat.zero_add] at this
      · simp only [pm_tv_cat]
        by_cases e2 : j + 1 = i
        · have h2 := hq e2
          simp [e, e1, e2, h2]
        · simp [e, e1, e2]
  · rcases key j w hj with ⟨rfl, rfl⟩ | ⟨e, -, hj, -⟩
    · exact hi
    · exact h.2 j w hj hc
end
