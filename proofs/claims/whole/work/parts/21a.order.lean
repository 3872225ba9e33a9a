/-! order: rows of the BELT, and the best of them -/
section
def bl (m : Nat) : List Nat := (List.range 7).filter fun t => m.testBit t
def LPm : Nat → Nat → List (List Nat)
  | 0, _ => [[]]
  | f + 1, m => (bl m).flatMap fun a => (LPm f (m - 2 ^ a)).map fun p => a :: p
def atI (p : List Nat) : Nat → Option Nat
  | 0 => none
  | k + 1 => if p.getD (k + 1) 0 < p.getD k 0 then atI p k else some k
def byI (p : List Nat) (x : Nat) : Nat → Nat
  | 0 => 0
  | k + 1 => if p.getD k 0 < x then byI p x k else k
def swI (p : List Nat) (i j : Nat) : List Nat := (p.set i (p.getD j 0)).set j (p.getD i 0)
def rvI : Nat → List Nat → Nat → Nat → List Nat
  | 0, p, _, _ => p
  | f + 1, p, lo, hi => if lo < hi then rvI f (swI p lo hi) (lo + 1) (hi - 1) else p
def nxI (p : List Nat) : Option (List Nat) := match atI p (p.length - 1) with
  | none => none
  | some a => some (rvI 4 (swI p a (byI p (p.getD a 0) p.length)) (a + 1) (p.length - 1))
def ndB : List Nat → Bool
  | [] => true
  | t :: r => !(r.contains t) && ndB r
def okP (m : Nat) (p : List Nat) : Bool := (List.range 7).all (fun t => m.testBit t == p.contains t) && (ndB p && p.all fun t => decide (t < 7))
/-- each row's next one is the next in the list; behind the last one comes z -/
def Ch : List (List Nat) → Option (List Nat) → Prop
  | [], _ => False
  | [p], z => nxI p = z
  | p :: q :: r, z => nxI p = some q ∧ Ch (q :: r) z
def bdy (m : Nat) : List Nat → Bool
  | [] => true
  | [a] => nxI (a :: (bl (m - 2 ^ a)).reverse) == none
  | a :: b :: r => (nxI (a :: (bl (m - 2 ^ a)).reverse) == some (b :: bl (m - 2 ^ b))) && bdy m (b :: r)
def bhd (m : Nat) : Bool := match bl m with
  | [] => true
  | a :: r => bl m == a :: bl (m - 2 ^ a) && ((bl m).reverse == (a :: r).getLast (List.cons_ne_nil _ _) :: (bl (m - 2 ^ (a :: r).getLast (List.cons_ne_nil _ _))).reverse)
theorem bdy_tab : ((List.range 128).all fun m => bdy m (bl m) && bhd m) = true := by decide +kernel
theorem bit_tab : ((List.range 128).all fun m => (List.range 7).all fun a => !(m.testBit a) || ((zpc (m - 2 ^ a) + 1 == zpc m) && ((m ^^^ (m &&& 2 ^ a) == m - 2 ^ a) && (decide (2 ^ a ≤ m) && (List.range 7).all fun t => (m - 2 ^ a).testBit t == (m.testBit t && t != a))))) = true := by decide +kernel
theorem pos_tab : ((List.range 128).all fun m => (decide (zpc m = 0) == decide (m = 0)) && ((bl m).length == zpc m)) = true := by decide +kernel

theorem getD_s (a : Nat) (r : List Nat) (k : Nat) : (a :: r).getD (k + 1) 0 = r.getD k 0 := rfl
theorem atI_s (a : Nat) (r : List Nat) : ∀ k, atI (a :: r) (k + 1) = match atI r k with
    | some j => some (j + 1)
    | none => if r.getD 0 0 < a then none else some 0
  | 0 => by
    show (if (a :: r).getD 1 0 < (a :: r).getD 0 0 then atI (a :: r) 0 else some 0) = if r.getD 0 0 < a then none else some 0
    rfl
  | k + 1 => by
    have e1 : atI (a :: r) (k + 2) = if r.getD (k + 1) 0 < r.getD k 0 then atI (a :: r) (k + 1) else some (k + 1) := rfl
    have e2 : atI r (k + 1) = if r.getD (k + 1) 0 < r.getD k 0 then atI r k else some k := rfl
    rw [e1, e2]
    by_cases c : r.getD (k + 1) 0 < r.getD k 0
    · rw [if_pos c, if_pos c]; exact atI_s a r k
    · rw [if_neg c, if_neg c]
theorem atI_lt (p : List Nat) : ∀ k j, atI p k = some j → j < k
  | 0, j, h => by cases h
  | k + 1, j, h => by
    have e : atI p (k + 1) = if p.getD (k + 1) 0 < p.getD k 0 then atI p k else some k := rfl
    rw [e] at h
    split at h
    · have := atI_lt p k j h; omega
    · cases h; omega
theorem byI_s (a x : Nat) (r : List Nat) : ∀ k, (∃ i, i < k ∧ ¬ r.getD i 0 < x) → byI (a :: r) x (k + 1) = byI r x k + 1 ∧ byI r x k < k
  | 0, h => by obtain ⟨i, h1, -⟩ := h; omega
  | k + 1, h => by
    have e1 : byI (a :: r) x (k + 2) = if r.getD k 0 < x then byI (a :: r) x (k + 1) else k + 1 := rfl
    have e2 : byI r x (k + 1) = if r.getD k 0 < x then byI r x k else k := rfl
    rw [e1, e2]
    by_cases c : r.getD k 0 < x
    · rw [if_pos c, if_pos c]
      obtain ⟨i, h1, h2⟩ := h
      have hik : i ≠ k := fun e => by subst e; exact h2 c
      obtain ⟨q1, q2⟩ := byI_s a x r k ⟨i, by omega, h2⟩
      exact ⟨q1, by omega⟩
    · rw [if_neg c, if_neg c]
      exact ⟨rfl, by omega⟩
theorem swI_s (a : Nat) (r : List Nat) (i j : Nat) : swI (a :: r) (i + 1) (j + 1) = a :: swI r i j := rfl
theorem swI_len (r : List Nat) (i j : Nat) : (swI r i j).length = r.length := by simp [swI]
theorem rvI_s (a : Nat) : ∀ (f : Nat) (r : List Nat) (lo hi : Nat), rvI f (a :: r) (lo + 1) (hi + 1) = a :: rvI f r lo hi
  | 0, _, _, _ => rfl
  | f + 1, r, lo, hi => by
    have e1 : rvI (f + 1) (a :: r) (lo + 1) (hi + 1) = if lo + 1 < hi + 1 then rvI f (swI (a :: r) (lo + 1) (hi + 1)) (lo + 1 + 1) (hi + 1 - 1) else a :: r := rfl
    have e2 : rvI (f + 1) r lo hi = if lo < hi then rvI f (swI r lo hi) (lo + 1) (hi - 1) else r := rfl
    rw [e1, e2]
    by_cases c : lo < hi
    · rw [if_pos c, if_pos (by omega), swI_s, show hi + 1 - 1 = (hi - 1) + 1 by omega, rvI_s a f]
    · rw [if_neg c, if_neg (by omega)]
theorem nxI_s (a : Nat) {r r' : List Nat} (h : nxI r = some r') : nxI (a :: r) = some (a :: r') := by
  unfold nxI at h ⊢
  cases hj : atI r (r.length - 1) with
  | none => rw [hj] at h; cases h
  | some j =>
    rw [hj] at h
    have hlt := atI_lt _ _ _ hj
    have e : (a :: r).length - 1 = (r.length - 1) + 1 := by rw [List.length_cons]; omega
    obtain ⟨b1, b2⟩ := byI_s a (r.getD j 0) r r.length ⟨j, by omega, by omega⟩
    rw [e, atI_s, hj]
    dsimp only at h ⊢
    rw [getD_s, List.length_cons, b1, swI_s, rvI_s]
    injection h with h
    rw [h]
theorem Ch_ne {l : List (List Nat)} {z : Option (List Nat)} (h : Ch l z) : l ≠ [] := fun e => by subst e; exact h
theorem Ch_app : ∀ (l1 l2 : List (List Nat)) (z : Option (List Nat)), Ch l1 l2.head? → Ch l2 z → Ch (l1 ++ l2) z
  | [], _, _, h, _ => absurd h (fun q => q)
  | [p], [], _, _, h2 => absurd h2 (fun q => q)
  | [p], q :: r, z, h1, h2 => ⟨h1, h2⟩
  | p :: q :: r, l2, z, h1, h2 => ⟨h1.1, Ch_app (q :: r) l2 z h1.2 h2⟩
theorem Ch_map (a : Nat) : ∀ (l : List (List Nat)) (h : Ch l none) (q : List Nat), l.getLast? = some q → Ch (l.map fun p => a :: p) (nxI (a :: q))
  | [], h, _, _ => absurd h (fun q => q)
  | [p], _, q, e => by
    have : p = q := by simpa using e
    subst this
    rfl
  | p :: x :: r, h, q, e => ⟨nxI_s a h.1, Ch_map a (x :: r) h.2 q (by rw [← e]; simp)⟩
theorem LPm_ch : ∀ (k m : Nat), m < 128 → zpc m = k → Ch (LPm k m) none ∧ (LPm k m).head? = some (bl m) ∧ (LPm k m).getLast? = some (bl m).reverse ∧ ∀ p, p ∈ LPm k m → okP m p = true
  | 0, m, hm, hk => by
    have h1 := List.all_eq_true.mp pos_tab m (List.mem_range.mpr hm)
    simp only [Bool.and_eq_true, beq_iff_eq] at h1
    have hb : bl m = [] := by
      have := h1.2
      rw [hk] at this
      exact List.length_eq_zero_iff.mp this
    have h0 : m = 0 := by
      have := h1.1
      rw [decide_eq_true hk] at this
      exact of_decide_eq_true this.symm
    subst h0
    refine ⟨rfl, by rw [hb]; rfl, by rw [hb]; rfl, fun p hp => ?_⟩
    have : p = [] := by simpa [LPm] using hp
    subst this
    decide
  | k + 1, m, hm, hk => by
    have h1 := List.all_eq_true.mp bdy_tab m (List.mem_range.mpr hm)
    rw [Bool.and_eq_true] at h1
    obtain ⟨hbd, hbh⟩ := h1
    have hpos := List.all_eq_true.mp pos_tab m (List.mem_range.mpr hm)
    simp only [Bool.and_eq_true, beq_iff_eq] at hpos
    have sub : ∀ a, a ∈ bl m → a < 7 ∧ m.testBit a = true ∧ zpc (m - 2 ^ a) = k ∧ ∀ t, t < 7 → (m - 2 ^ a).testBit t = (m.testBit t && t != a) := by
      intro a ha
      unfold bl at ha
      rw [List.mem_filter, List.mem_range] at ha
      have h2 := List.all_eq_true.mp (List.all_eq_true.mp bit_tab m (List.mem_range.mpr hm)) a (List.mem_range.mpr ha.1)
      rw [ha.2] at h2
      simp only [Bool.not_true, Bool.false_or, Bool.and_eq_true, beq_iff_eq, decide_eq_true_eq, List.all_eq_true, List.mem_range] at h2
      exact ⟨ha.1, ha.2, by omega, h2.2.2.2⟩
    have ih := fun a (ha : a ∈ bl m) => LPm_ch k (m - 2 ^ a) (Nat.lt_of_le_of_lt (Nat.sub_le _ _) hm) (sub a ha).2.2.1
    have run : ∀ l : List Nat, l ≠ [] → bdy m l = true → (∀ a, a ∈ l → a ∈ bl m) → Ch (l.flatMap fun a => (LPm k (m - 2 ^ a)).map fun p => a :: p) none ∧ (l.flatMap fun a => (LPm k (m - 2 ^ a)).map fun p => a :: p).head? = (l.head?.map fun a => a :: bl (m - 2 ^ a)) ∧ (l.flatMap fun a => (LPm k (m - 2 ^ a)).map fun p => a :: p).getLast? = (l.getLast?.map fun a => a :: (bl (m - 2 ^ a)).reverse) := by
      intro l
      induction l with
      | nil => intro h; exact absurd rfl h
      | cons a r ihr =>
        intro _ hb hmem
        obtain ⟨c1, c2, c3, -⟩ := ih a (hmem a List.mem_cons_self)
        have cm := Ch_map a _ c1 _ c3
        have hhd : ((LPm k (m - 2 ^ a)).map fun p => a :: p).head? = some (a :: bl (m - 2 ^ a)) := by rw [List.head?_map, c2]; rfl
        have hls : ((LPm k (m - 2 ^ a)).map fun p => a :: p).getLast? = some (a :: (bl (m - 2 ^ a)).reverse) := by rw [List.getLast?_map, c3]; rfl
        cases r with
        | nil =>
          have hb2 : (nxI (a :: (bl (m - 2 ^ a)).reverse) == none) = true := hb
          have hb3 := eq_of_beq hb2
          rw [hb3] at cm
          have e : ([a].flatMap fun a => (LPm k (m - 2 ^ a)).map fun p => a :: p) = (LPm k (m - 2 ^ a)).map fun p => a :: p := by simp
          rw [e]
          exact ⟨cm, hhd, hls⟩
        | cons x r =>
          have hb2 : ((nxI (a :: (bl (m - 2 ^ a)).reverse) == some (x :: bl (m - 2 ^ x))) && bdy m (x :: r)) = true := hb
          rw [Bool.and_eq_true] at hb2
          have hb3 := eq_of_beq hb2.1
          obtain ⟨d1, d2, d3⟩ := ihr (by simp) hb2.2 (fun v hv => hmem v (List.mem_cons_of_mem _ hv))
          rw [hb3] at cm
          have e : ((a :: x :: r).flatMap fun a => (LPm k (m - 2 ^ a)).map fun p => a :: p) = ((LPm k (m - 2 ^ a)).map fun p => a :: p) ++ ((x :: r).flatMap fun a => (LPm k (m - 2 ^ a)).map fun p => a :: p) := rfl
          rw [e]
          have d2' : ((x :: r).flatMap fun a => (LPm k (m - 2 ^ a)).map fun p => a :: p).head? = some (x :: bl (m - 2 ^ x)) := d2
          refine ⟨Ch_app _ _ _ (by rw [d2']; exact cm) d1, ?_, ?_⟩
          · rw [List.head?_append, hhd]; rfl
          · rw [List.getLast?_append, d3]
            cases hg : (x :: r).getLast? with
            | none => simp at hg
            | some v =>
              rw [List.getLast?_cons_cons, hg]
              rfl
    have hbl : (bl m).length = k + 1 := by rw [hpos.2, hk]
    cases hb : bl m with
    | nil => rw [hb] at hbl; simp at hbl
    | cons a r =>
      rw [hb] at hbd run
      obtain ⟨r1, r2, r3⟩ := run (a :: r) (by simp) hbd (fun v hv => hv)
      have eL : LPm (k + 1) m = (a :: r).flatMap fun a => (LPm k (m - 2 ^ a)).map fun p => a :: p := by
        show (bl m).flatMap _ = _
        rw [hb]
      unfold bhd at hbh
      rw [hb] at hbh
      dsimp only at hbh
      rw [Bool.and_eq_true] at hbh
      have f1 := eq_of_beq hbh.1
      have f2 := eq_of_beq hbh.2
      rw [eL]
      refine ⟨r1, ?_, ?_, fun p hp => ?_⟩
      · rw [r2, f1]; rfl
      · rw [r3, f2, List.getLast?_eq_some_getLast (List.cons_ne_nil _ _)]; rfl
      · rw [List.mem_flatMap] at hp
        obtain ⟨v, hv, hp2⟩ := hp
        rw [List.mem_map] at hp2
        obtain ⟨q, hq, rfl⟩ := hp2
        have hv' : v ∈ bl m := by rw [hb]; exact hv
        obtain ⟨s1, s2, s3, s4⟩ := sub v hv'
        obtain ⟨-, -, -, c4⟩ := ih v hv'
        have hok := c4 q hq
        unfold okP at hok ⊢
        simp only [Bool.and_eq_true, List.all_eq_true, List.mem_range, beq_iff_eq, decide_eq_true_eq] at hok ⊢
        obtain ⟨o1, o2, o3⟩ := hok
        refine ⟨fun t ht => ?_, ?_, fun t ht => ?_⟩
        · have := o1 t ht
          rw [s4 t ht] at this
          rw [List.contains_cons]
          by_cases e : t = v
          · subst e; simp [s2]
          · have h9 : q.contains t = (m.testBit t && t != v) := this.symm
            rw [h9]
            have e1 : (t == v) = false := by simpa using e
            have e2 : (t != v) = true := by simpa using e
            rw [e1, e2]
            simp
        · have hnc : q.contains v = false := by
            have := o1 v s1
            rw [s4 v s1] at this
            rw [← this]
            simp
          unfold ndB
          rw [hnc, o2]
          rfl
        · rcases List.mem_cons.mp ht with rfl | ht
          · exact s1
          · exact o3 t ht
end
