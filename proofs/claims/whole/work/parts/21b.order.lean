section
variable {g : Nat → Nat}
def brk (g : Nat → Nat) (t x : Nat) : Nat := if gc g t = 1 ∨ gbears g t < x then 1 else 0
def sumP (g : Nat → Nat) : List Nat → Nat
  | [] => 0
  | t :: r => gpress g t + sumP g r
def costP (g : Nat → Nat) : List Nat → Nat
  | [] => 0
  | t :: r => brk g t (sumP g r) + costP g r
def PRm (g : Nat → Nat) (m : Nat) : Nat := zS (fun t => if m.testBit t = true then gpress g t else 0) 7
def st1 (acc : Option (Nat × List Nat)) (x : Nat × List Nat) : Option (Nat × List Nat) := match acc with
  | none => some x
  | some y => if x.1 < y.1 then some x else some y
def FG (g : Nat → Nat) : Nat → Nat → Nat × List Nat
  | 0, _ => (0, [])
  | k + 1, m => ((bl m).foldl (fun acc a => st1 acc (brk g a (PRm g (m - 2 ^ a)) + (FG g k (m - 2 ^ a)).1, a :: (FG g k (m - 2 ^ a)).2)) none).getD (8, [])
def fbP (g : Nat → Nat) (base : Nat) (acc : Option (Nat × List Nat)) (l : List (List Nat)) : Option (Nat × List Nat) := l.foldl (fun acc p => st1 acc (base + costP g p, p)) acc
theorem bit_at {m a : Nat} (hm : m < 128) (ha : a < 7) (h : m.testBit a = true) : zpc (m - 2 ^ a) + 1 = zpc m ∧ m ^^^ (m &&& 2 ^ a) = m - 2 ^ a ∧ 2 ^ a ≤ m ∧ ∀ t, t < 7 → (m - 2 ^ a).testBit t = (m.testBit t && decide (t ≠ a)) := by
  have h1 := List.all_eq_true.mp bit_tab m (List.mem_range.mpr hm)
  have h2 := List.all_eq_true.mp h1 a (List.mem_range.mpr ha)
  rw [h] at h2
  simp only [Bool.not_true, Bool.false_or, Bool.and_eq_true, beq_iff_eq, decide_eq_true_eq, List.all_eq_true, List.mem_range] at h2
  obtain ⟨q1, q2, q3, q4⟩ := h2
  refine ⟨q1, q2, q3, fun t ht => ?_⟩
  have := q4 t ht
  rw [this]
  by_cases e : t = a
  · subst e; simp
  · simp [e]
theorem pos_at {m : Nat} (hm : m < 128) : (zpc m = 0 ↔ m = 0) ∧ (bl m).length = zpc m := by
  have h1 := List.all_eq_true.mp pos_tab m (List.mem_range.mpr hm)
  simp only [Bool.and_eq_true, beq_iff_eq] at h1
  refine ⟨?_, h1.2⟩
  have := h1.1
  by_cases c : m = 0
  · rw [decide_eq_true c] at this
    exact ⟨fun _ => c, fun _ => of_decide_eq_true this⟩
  · rw [decide_eq_false c] at this
    exact ⟨fun q => absurd q (of_decide_eq_false this), fun q => absurd q c⟩
theorem m128 {m a : Nat} (hm : m < 128) : m - 2 ^ a < 128 := Nat.lt_of_le_of_lt (Nat.sub_le _ _) hm
theorem bl_mem {m t : Nat} : t ∈ bl m ↔ t < 7 ∧ m.testBit t = true := by
  unfold bl
  rw [List.mem_filter, List.mem_range]
theorem PRm_at {m a : Nat} (hm : m < 128) (ha : a < 7) (h : m.testBit a = true) : gpress g a + PRm g (m - 2 ^ a) = PRm g m := by
  obtain ⟨-, -, -, q⟩ := bit_at hm ha h
  unfold PRm
  have := zS_at (f := fun t => if m.testBit t = true then gpress g t else 0) (f' := fun t => if (m - 2 ^ a).testBit t = true then gpress g t else 0) (t := a) 7 ha (fun k hk hka => by rw [q k hk]; simp [hka])
  rw [q a ha] at this
  simp [h] at this
  omega
theorem fb_some (base : Nat) : ∀ (l : List (List Nat)) (y : Nat × List Nat), fbP g base (some y) l = match fbP g base none l with
    | none => some y
    | some z => st1 (some y) z
  | [], y => rfl
  | p :: r, y => by
    have e1 : fbP g base (some y) (p :: r) = fbP g base (st1 (some y) (base + costP g p, p)) r := rfl
    have e2 : fbP g base none (p :: r) = fbP g base (some (base + costP g p, p)) r := rfl
    rw [e1, e2, fb_some base r (base + costP g p, p)]
    unfold st1
    dsimp only
    by_cases c : base + costP g p < y.1
    · rw [if_pos c, fb_some base r (base + costP g p, p)]
      cases h : fbP g base none r with
      | none => dsimp only; rw [if_pos c]
      | some z =>
        unfold st1
        dsimp only
        by_cases c2 : z.1 < base + costP g p
        · rw [if_pos c2]; dsimp only; rw [if_pos (by omega)]
        · rw [if_neg c2]; dsimp only; rw [if_pos c]
    · rw [if_neg c, fb_some base r y]
      cases h : fbP g base none r with
      | none => dsimp only; rw [if_neg c]
      | some z =>
        unfold st1
        dsimp only
        by_cases c2 : z.1 < base + costP g p
        · rw [if_pos c2]
        · rw [if_neg c2]; dsimp only; rw [if_neg c, if_neg (by omega)]
theorem fb_map {base a S : Nat} : ∀ (l : List (List Nat)) (acc : Option (Nat × List Nat)), (∀ p, p ∈ l → sumP g p = S) → fbP g base (acc.map fun z => (z.1, a :: z.2)) (l.map fun p => a :: p) = (fbP g (base + brk g a S) acc l).map fun z => (z.1, a :: z.2)
  | [], acc, _ => rfl
  | p :: r, acc, h => by
    have e1 : fbP g base (acc.map fun z => (z.1, a :: z.2)) ((p :: r).map fun p => a :: p) = fbP g base (st1 (acc.map fun z => (z.1, a :: z.2)) (base + costP g (a :: p), a :: p)) (r.map fun p => a :: p) := rfl
    have e2 : fbP g (base + brk g a S) acc (p :: r) = fbP g (base + brk g a S) (st1 acc (base + brk g a S + costP g p, p)) r := rfl
    have e3 : st1 (acc.map fun z => (z.1, a :: z.2)) (base + costP g (a :: p), a :: p) = (st1 acc (base + brk g a S + costP g p, p)).map fun z => (z.1, a :: z.2) := by
      have e4 : base + costP g (a :: p) = base + brk g a S + costP g p := by
        show base + (brk g a (sumP g p) + costP g p) = _
        rw [h p List.mem_cons_self]
        omega
      rw [e4]
      cases acc with
      | none => rfl
      | some y =>
        unfold st1
        dsimp only [Option.map_some]
        split <;> rfl
    rw [e1, e2, e3]
    exact fb_map r _ (fun q hq => h q (List.mem_cons_of_mem _ hq))
theorem fb_flat {base : Nat} (f : Nat → List (List Nat)) (x : Nat → Nat × List Nat) : ∀ (l : List Nat) (acc : Option (Nat × List Nat)), (∀ a, a ∈ l → fbP g base none (f a) = some (x a)) → fbP g base acc (l.flatMap f) = l.foldl (fun acc a => st1 acc (x a)) acc
  | [], acc, _ => rfl
  | a :: l, acc, h => by
    have e1 : fbP g base acc ((a :: l).flatMap f) = fbP g base (fbP g base acc (f a)) (l.flatMap f) := by
      show fbP g base acc (f a ++ l.flatMap f) = _
      unfold fbP
      rw [List.foldl_append]
    have e2 : fbP g base acc (f a) = st1 acc (x a) := by
      cases acc with
      | none => exact h a List.mem_cons_self
      | some y => rw [fb_some, h a List.mem_cons_self]
    rw [e1, e2]
    exact fb_flat f x l _ (fun b hb => h b (List.mem_cons_of_mem _ hb))
theorem st_shift (base : Nat) (x : Nat → Nat × List Nat) : ∀ (l : List Nat) (acc : Option (Nat × List Nat)), l.foldl (fun acc a => st1 acc (base + (x a).1, (x a).2)) (acc.map fun z => (base + z.1, z.2)) = (l.foldl (fun acc a => st1 acc (x a)) acc).map fun z => (base + z.1, z.2)
  | [], acc => rfl
  | a :: l, acc => by
    have e : st1 (acc.map fun z => (base + z.1, z.2)) (base + (x a).1, (x a).2) = (st1 acc (x a)).map fun z => (base + z.1, z.2) := by
      cases acc with
      | none => rfl
      | some y =>
        unfold st1
        dsimp only [Option.map_some]
        by_cases c : (x a).1 < y.1
        · rw [if_pos c, if_pos (by omega)]; rfl
        · rw [if_neg c, if_neg (by omega)]; rfl
    show l.foldl _ (st1 (acc.map fun z => (base + z.1, z.2)) (base + (x a).1, (x a).2)) = _
    rw [e]
    exact st_shift base x l _
theorem st_some (x : Nat → Nat × List Nat) : ∀ (l : List Nat) (y : Nat × List Nat), ∃ z, l.foldl (fun acc a => st1 acc (x a)) (some y) = some z
  | [], y => ⟨y, rfl⟩
  | a :: l, y => by
    show ∃ z, l.foldl _ (st1 (some y) (x a)) = some z
    unfold st1
    dsimp only
    split
    · exact st_some x l _
    · exact st_some x l _
def cnd (g : Nat → Nat) (k m a : Nat) : Nat × List Nat := (brk g a (PRm g (m - 2 ^ a)) + (FG g k (m - 2 ^ a)).1, a :: (FG g k (m - 2 ^ a)).2)
theorem FG_some {k m : Nat} (hm : m < 128) (hk : zpc m = k + 1) : (bl m).foldl (fun acc a => st1 acc (cnd g k m a)) none = some (FG g (k + 1) m) := by
  have hl := (pos_at hm).2
  cases h : bl m with
  | nil => rw [h] at hl; simp at hl; omega
  | cons a l =>
    obtain ⟨z, hz⟩ := st_some (cnd g k m) l (cnd g k m a)
    have e : (a :: l).foldl (fun acc a => st1 acc (cnd g k m a)) none = some z := hz
    have e2 : FG g (k + 1) m = z := by
      show ((bl m).foldl (fun acc a => st1 acc (cnd g k m a)) none).getD (8, []) = z
      rw [h, e]
      rfl
    rw [e, e2]
theorem best_ok : ∀ (k m base : Nat), m < 128 → zpc m = k → (∀ p, p ∈ LPm k m → sumP g p = PRm g m) ∧ fbP g base none (LPm k m) = some (base + (FG g k m).1, (FG g k m).2)
  | 0, m, base, hm, hk => by
    have h0 : m = 0 := (pos_at hm).1.mp hk
    subst h0
    refine ⟨fun p hp => ?_, rfl⟩
    have : p = [] := by simpa [LPm] using hp
    rw [this]
    have hz : ∀ n, zS (fun t => if (0 : Nat).testBit t = true then gpress g t else 0) n = 0 := by
      intro n
      have := zS_le (f := fun t => if (0 : Nat).testBit t = true then gpress g t else 0) (c := 0) n (fun k _ => by simp)
      omega
    exact (hz 7).symm
  | k + 1, m, base, hm, hk => by
    have sub : ∀ a, a ∈ bl m → a < 7 ∧ m.testBit a = true ∧ m - 2 ^ a < 128 ∧ zpc (m - 2 ^ a) = k := by
      intro a ha
      obtain ⟨h1, h2⟩ := bl_mem.mp ha
      obtain ⟨q1, -, -, -⟩ := bit_at hm h1 h2
      exact ⟨h1, h2, m128 hm, by omega⟩
    constructor
    · intro p hp
      have hp2 : p ∈ (bl m).flatMap fun a => (LPm k (m - 2 ^ a)).map fun p => a :: p := hp
      rw [List.mem_flatMap] at hp2
      obtain ⟨a, ha, hp3⟩ := hp2
      rw [List.mem_map] at hp3
      obtain ⟨r, hr, rfl⟩ := hp3
      obtain ⟨h1, h2, h3, h4⟩ := sub a ha
      show gpress g a + sumP g r = _
      rw [(best_ok k (m - 2 ^ a) 0 h3 h4).1 r hr]
      exact PRm_at hm h1 h2
    · have e : fbP g base none (LPm (k + 1) m) = (bl m).foldl (fun acc a => st1 acc (base + (cnd g k m a).1, (cnd g k m a).2)) none := by
        refine fb_flat _ (fun a => (base + (cnd g k m a).1, (cnd g k m a).2)) _ _ (fun a ha => ?_)
        obtain ⟨h1, h2, h3, h4⟩ := sub a ha
        have q := fb_map (g := g) (base := base) (a := a) (S := PRm g (m - 2 ^ a)) (LPm k (m - 2 ^ a)) none (best_ok k (m - 2 ^ a) 0 h3 h4).1
        rw [(best_ok k (m - 2 ^ a) (base + brk g a (PRm g (m - 2 ^ a))) h3 h4).2] at q
        refine Eq.trans q ?_
        unfold cnd
        dsimp only [Option.map_some]
        rw [Nat.add_assoc]
      have s := st_shift base (cnd g k m) (bl m) none
      rw [show Option.map (fun z : Nat × List Nat => (base + z.1, z.2)) none = none from rfl] at s
      rw [e, s, FG_some hm hk]
      rfl
/-- the first of the least -/
theorem st_first (x : Nat → Nat × List Nat) : ∀ (l : List Nat) (b : Nat), (b :: l).Pairwise (fun p q => p < q) → ∃ a, a ∈ b :: l ∧ l.foldl (fun acc a => st1 acc (x a)) (some (x b)) = some (x a) ∧ ∀ c, c ∈ b :: l → (x a).1 ≤ (x c).1 ∧ (c < a → (x a).1 < (x c).1)
  | [], b, _ => ⟨b, List.mem_cons_self, rfl, fun c hc => by
      have : c = b := by simpa using hc
      subst this
      exact ⟨Nat.le_refl _, fun q => absurd q (Nat.lt_irrefl _)⟩⟩
  | y :: r, b, hp => by
    rw [List.pairwise_cons] at hp
    obtain ⟨hb, hy⟩ := hp
    have hby := hb y List.mem_cons_self
    show ∃ a, a ∈ b :: y :: r ∧ r.foldl _ (st1 (some (x b)) (x y)) = some (x a) ∧ _
    by_cases c : (x y).1 < (x b).1
    · have e : st1 (some (x b)) (x y) = some (x y) := by unfold st1; dsimp only; rw [if_pos c]
      rw [e]
      obtain ⟨a, h1, h2, h3⟩ := st_first x r y hy
      refine ⟨a, List.mem_cons_of_mem _ h1, h2, fun d hd => ?_⟩
      rcases List.mem_cons.mp hd with rfl | hd
      · have := (h3 y List.mem_cons_self).1
        exact ⟨by omega, fun _ => by omega⟩
      · exact h3 d hd
    · have e : st1 (some (x b)) (x y) = some (x b) := by unfold st1; dsimp only; rw [if_neg c]
      rw [e]
      have hp2 : (b :: r).Pairwise (fun p q => p < q) := by
        rw [List.pairwise_cons] at hy ⊢
        exact ⟨fun d hd => hb d (List.mem_cons_of_mem _ hd), hy.2⟩
      obtain ⟨a, h1, h2, h3⟩ := st_first x r b hp2
      refine ⟨a, ?_, h2, fun d hd => ?_⟩
      · rcases List.mem_cons.mp h1 with rfl | h1
        · exact List.mem_cons_self
        · exact List.mem_cons_of_mem _ (List.mem_cons_of_mem _ h1)
      · rcases List.mem_cons.mp hd with rfl | hd
        · exact h3 d List.mem_cons_self
        · rcases List.mem_cons.mp hd with rfl | hd
          · have q1 := h3 b List.mem_cons_self
            refine ⟨by omega, fun hda => ?_⟩
            have := q1.2 (by omega)
            omega
          · exact h3 d (List.mem_cons_of_mem _ hd)
theorem bl_sorted (m : Nat) : (bl m).Pairwise fun p q => p < q := by
  unfold bl
  exact List.Pairwise.filter _ (by decide)
theorem FG_first {k m : Nat} (hm : m < 128) (hk : zpc m = k + 1) : ∃ a, a < 7 ∧ m.testBit a = true ∧ FG g (k + 1) m = cnd g k m a ∧ ∀ c, c < 7 → m.testBit c = true → (cnd g k m a).1 ≤ (cnd g k m c).1 ∧ (c < a → (cnd g k m a).1 < (cnd g k m c).1) := by
  have hl := (pos_at hm).2
  have hs := bl_sorted m
  have hf := FG_some (g := g) hm hk
  have hmem := fun t => bl_mem (m := m) (t := t)
  cases h : bl m with
  | nil => rw [h] at hl; simp at hl; omega
  | cons b l =>
    rw [h] at hs hf hmem
    obtain ⟨a, h1, h2, h3⟩ := st_first (cnd g k m) l b hs
    have hf2 : l.foldl (fun acc a => st1 acc (cnd g k m a)) (some (cnd g k m b)) = some (FG g (k + 1) m) := hf
    rw [h2] at hf2
    injection hf2 with hf3
    obtain ⟨q1, q2⟩ := (hmem a).mp h1
    exact ⟨a, q1, q2, hf3.symm, fun c c1 c2 => h3 c ((hmem c).mpr ⟨c1, c2⟩)⟩
theorem brk_le (t x : Nat) : brk g t x ≤ 1 := by
  unfold brk
  split <;> omega
theorem FG_le : ∀ (k m : Nat), m < 128 → zpc m = k → (FG g k m).1 ≤ k ∧ (FG g k m).2.length = k
  | 0, _, _, _ => ⟨Nat.le_refl _, rfl⟩
  | k + 1, m, hm, hk => by
    obtain ⟨a, h1, h2, h3, -⟩ := FG_first (g := g) hm hk
    obtain ⟨q1, -, -, -⟩ := bit_at hm h1 h2
    obtain ⟨r1, r2⟩ := FG_le k (m - 2 ^ a) (m128 hm) (by omega)
    have := brk_le (g := g) a (PRm g (m - 2 ^ a))
    rw [h3]
    unfold cnd
    exact ⟨by dsimp only; omega, by dsimp only; rw [List.length_cons, r2]⟩
end
