/-! one instruction of the pure machine, on the JVM -/
/-- new int[n][k]: what it does (proved apart) -/
def pm_Mna : Prop := ∀ (p : Program) (l : Launch) (e : Env) (R : Room) (s : State) (m : MethodId) (args : Array Value) (below : List Frame) (meth : Method) (c : Code) (cc : ByteArray) (H : Heap) (locs : List Loc) (cells slots : Nat) (Q : State → Prop) (pc : Nat) (ls : Array Slot) (rest : List Value) (own : String) (index : Nat) (n k : Int32),
  p.tables.exec = Jvm.exec → c.code = cc → s.vm.findClass own = some m.cls → (Cond.classLink own index "[[I").before args s = true → pm_AO s → (Cond.arrayClass .int).before args s = true → ¬ n < 0 → ¬ k < 0 → n.toNatClampNeg ≤ 2000 → k.toNatClampNeg ≤ 2000 → cells + (1 + n.toNatClampNeg) ≤ R.cells → slots + (n.toNatClampNeg + n.toNatClampNeg * k.toNatClampNeg) ≤ R.slots → decode cc pc = .ok (.multianewarray index 2, 4) →
  (∀ (H1 : Heap) (cA cI : ClassId), s.vm.findClass "[[I" = some cA → s.vm.findClass "[I" = some cI → H1.size = H.size + 1 + n.toNatClampNeg → H1[H.size]? = some (vp_cell cA (n.toNatClampNeg, .inr (.inr (.inr (.inr fun i => if i < n.toNatClampNeg then some (H.size + 1 + i) else none))))) → (∀ j, j < n.toNatClampNeg → H1[H.size + 1 + j]? = some (vp_cell cI (k.toNatClampNeg, .inl fun _ => 0))) → (∀ q : Nat, q < H.size → H1[q]? = H[q]?) →
    W p l e R s m args below meth c H1 locs (cells + 1 + n.toNatClampNeg) (slots + n.toNatClampNeg + n.toNatClampNeg * k.toNatClampNeg) Q (F0 m (pc + 4) ls (.ref H.size :: rest))) →
  W p l e R s m args below meth c H locs cells slots Q (F0 m pc ls (.int k :: .int n :: rest))
/-- a method's frame: its code, its tables, the world at its start -/
def pm_E (D : va_G) (s0 : Nat) (od : Nat → Nat) (tid : Nat → ClassId) (L : Nat) (xs : Nat → Int32) (p : Program) (s : State) (m : MethodId) (args : Array Value) (meth : Method) (c : Code) (M : pm_M) (bytes : ByteArray) (maxL : Nat) (ini : Bool) (L0 : Nat) (R : Room) : Prop :=
  p.tables.exec = Jvm.exec ∧ c.code = bytes ∧ c.maxLocals = maxL ∧ s.vm.findClass (pm_cn M.1) = some m.cls ∧ (∀ w ∈ pm_gt, w.before args s = true) ∧ pm_W0 D s0 od tid L xs s s.heap ∧ s.heap.size = s0 + L0 ∧ (ini = true → meth.name = "<init>") ∧ M.1 < 15 ∧ (∀ pc j, pm_find M.2.2.2 pc = some j → decode bytes pc = .ok (j.1, j.2.1) ∧ pm_okI M.1 ini maxL pc j = true) ∧ 1 ≤ R.frames ∧ 40 ≤ R.locals
/-- the heap now -/
def pm_G (D : va_G) (s0 : Nat) (od : Nat → Nat) (tid : Nat → ClassId) (s : State) (L0 Z0 : Nat) (σ : pm_H) (H : Heap) (locs : List Loc) (cells slots : Nat) : Prop :=
  va_P D pm_cl (pm_ws s0 od tid σ) H ∧ va_S (pm_A s0) s.heap H locs ∧ cells + L0 = σ.length ∧ slots + Z0 = pm_sz σ
section PS
variable {D : va_G} {s0 : Nat} {od : Nat → Nat} {tid : Nat → ClassId} {L : Nat} {xs : Nat → Int32}
variable {p : Program} {l : Launch} {e : Env} {R : Room} {s : State} {m : MethodId} {args : Array Value} {below : List Frame} {meth : Method} {c : Code} {H : Heap} {locs : List Loc} {cells slots : Nat} {Q : State → Prop}
theorem pm_Wsz {g : JFrame} (k : H.size ≤ s.heap.size + cells → W p l e R s m args below meth c H locs cells slots Q g) : W p l e R s m args below meth c H locs cells slots Q g := by
  intro T hT X
  refine k ?_ T hT X
  have h1 : (T.setVm s.vm).heap.size ≤ s.heap.size + cells := X.same.2.2.1
  have h2 : (T.setVm s.vm).heap = T.heap := rfl
  rw [h2, hT] at h1
  exact h1
theorem pm_exact {L0 Z0 : Nat} {σ : pm_H} (hs : s.heap.size = s0 + L0) (h : pm_G D s0 od tid s L0 Z0 σ H locs cells slots) (hz : H.size ≤ s.heap.size + cells) : H.size = s0 + σ.length := by
  obtain ⟨h1, h2, h3, -⟩ := h
  have a := h2.1
  by_cases h0 : σ.length = 0
  · omega
  · obtain ⟨e, he⟩ : ∃ e, σ[σ.length - 1]? = some e := ⟨σ[σ.length - 1], List.getElem?_eq_getElem (by omega)⟩
    have := (h1 _ _ (pm_ws_at he)).lt
    have h4 : s0 + (σ.length - 1) < H.size := this
    omega
theorem pm_addr {σ : pm_H} {q : Nat} {x : va_E} {n : Nat} (hD : va_D (pm_A s0) (pm_ws s0 od tid σ ++ [(q, x)])) (hq : q < n) (hn : n ≤ s0 + σ.length + 1) : q = s0 + σ.length := by
  have h1 : s0 ≤ q := hD.2 σ.length (q, x) (by rw [List.getElem?_append_right (by rw [pm_ws_len]; omega), pm_ws_len]; simp)
  by_cases h2 : q < s0 + σ.length
  · exfalso
    obtain ⟨e, he⟩ : ∃ e, σ[q - s0]? = some e := ⟨σ[q - s0], List.getElem?_eq_getElem (by omega)⟩
    have h3 := hD.1 (q - s0) σ.length (s0 + (q - s0), pm_te s0 od tid e) (q, x) (by rw [List.getElem?_append_left (by rw [pm_ws_len]; omega)]; exact pm_ws_at he) (by rw [List.getElem?_append_right (by rw [pm_ws_len]; omega), pm_ws_len]; simp) (by show s0 + (q - s0) = q; omega)
    omega
  · omega
theorem pm_G.set {L0 Z0 : Nat} {σ : pm_H} (h : pm_G D s0 od tid s L0 Z0 σ H locs cells slots) {k : Nat} {e0 e : va_E} (hk : σ[k]? = some e0) (hz : pm_s1 e = pm_s1 e0) {H1 : Heap} {locs1 : List Loc} (hP : va_P D pm_cl ((pm_ws s0 od tid σ).set k (s0 + k, pm_te s0 od tid e)) H1) (hS : va_S (pm_A s0) s.heap H1 locs1) : pm_G D s0 od tid s L0 Z0 (σ.set k e) H1 locs1 cells slots := by
  rw [pm_ws_set] at hP
  exact ⟨hP, hS, by rw [List.length_set]; exact h.2.2.1, by rw [pm_sz_set σ k e0 e hk hz]; exact h.2.2.2⟩
theorem pm_sw_ok (pc : Nat) (k : Nat → Option pm_R) (dft : Nat) (x : Int32) (r : pm_R) : ∀ (lo : Int) (offs : List Int) (sw : List (Int32 × Nat)), pm_swok pc lo offs sw = true → pm_arms x k (k dft) sw = some r → (∃ (i : Nat) (o : Int) (t : Nat), offs[i]? = some o ∧ x.toInt = lo + i ∧ (pc : Int) + o = (t : Int) ∧ k t = some r) ∨ ((x.toInt < lo ∨ lo + offs.length ≤ x.toInt) ∧ k dft = some r)
  | lo, [], [], _, h => Or.inr ⟨by simp; omega, h⟩
  | lo, [], _ :: _, h, _ => by simp [pm_swok] at h
  | lo, _ :: _, [], h, _ => by simp [pm_swok] at h
  | lo, o :: os, (v, t) :: l, h, ha => by
    simp only [pm_swok, Bool.and_eq_true, decide_eq_true_eq] at h
    obtain ⟨⟨h1, h2⟩, h3⟩ := h
    unfold pm_arms at ha
    split at ha
    · rename_i hx
      subst hx
      exact Or.inl ⟨0, o, t, rfl, by rw [h1]; simp, h2, ha⟩
    · rename_i hx
      rcases pm_sw_ok pc k dft x r (lo + 1) os l h3 ha with ⟨i, o', t', g1, g2, g3, g4⟩ | ⟨g1, g2⟩
      · exact Or.inl ⟨i + 1, o', t', g1, by rw [g2]; push_cast; omega, g3, g4⟩
      · refine Or.inr ⟨?_, g2⟩
        have hne : x.toInt ≠ lo := fun q => hx (Int32.toInt_inj.mp (q.trans h1.symm))
        simp only [List.length_cons]
        push_cast
        omega
theorem pm_lk_ok (pc : Nat) (k : Nat → Option pm_R) (dft : Int) (a : Nat) (hd : (pc : Int) + dft = (a : Int)) (x : Int32) (r : pm_R) : ∀ (ps : List (Int × Int)) (sw : List (Int32 × Nat)), pm_lkok pc ps sw = true → pm_arms x k (k a) sw = some r → ∃ t : Nat, (pc : Int) + Op.lookupswitch.offset ps dft x.toInt = (t : Int) ∧ k t = some r
  | [], [], _, h => ⟨a, hd, h⟩
  | [], _ :: _, h, _ => by simp [pm_lkok] at h
  | _ :: _, [], h, _ => by simp [pm_lkok] at h
  | (y, o) :: os, (v, t) :: l, h, ha => by
    simp only [pm_lkok, Bool.and_eq_true, decide_eq_true_eq] at h
    obtain ⟨⟨h1, h2⟩, h3⟩ := h
    unfold pm_arms at ha
    split at ha
    · rename_i hx
      subst hx
      refine ⟨t, ?_, ha⟩
      rw [h1]
      simp [Op.lookupswitch.offset, h2]
    · rename_i hx
      have hne : y ≠ x.toInt := fun q => hx (Int32.toInt_inj.mp (q.symm.trans h1.symm))
      obtain ⟨t', g1, g2⟩ := pm_lk_ok pc k dft a hd x r os l h3 ha
      refine ⟨t', ?_, g2⟩
      rw [← g1]
      simp [Op.lookupswitch.offset, hne]
end PS
