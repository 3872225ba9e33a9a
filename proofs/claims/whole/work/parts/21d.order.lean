section
variable {L : Nat} {xs : Nat → Int32} {g : Nat → Nat} {I A : Nat → Nat → Int32} {b : Value}
theorem FG_cons {k m : Nat} (hm : m < 128) (hk : zpc m = k + 1) : ∃ a, a < 7 ∧ m.testBit a = true ∧ (FG g (zpc m) m).2 = a :: (FG g (zpc (m - 2 ^ a)) (m - 2 ^ a)).2 := by
  obtain ⟨a, a1, a2, a3, -⟩ := FG_first (g := g) hm hk
  obtain ⟨q1, -, -, -⟩ := bit_at hm a1 a2
  refine ⟨a, a1, a2, ?_⟩
  rw [hk, a3, show zpc (m - 2 ^ a) = k by omega]
  rfl
theorem c_thingLoop (hc : cR I A 15 g) (hB : gB g) {M : Nat} (hM : M < 128) (hb : ∀ t, M.testBit t = true → t < g 3) (hf : ∀ m, m ≤ M → sub m M → fOk g A m) {K : Nat} (hK : K < 2 ^ 31) (d : Nat) : ∀ (k m i : Nat), m ≤ M → sub m M → zpc m = k → i ≤ K → i + k < 2 ^ 20 → zE L xs (d + 4) K_BeltOrder_thingAt 16 [some (.ref 59), some (.ref 15), some (.int (nI K)), some (.int (nI m)), some (.int (zopt (FG g (zpc m) m).2.head?)), some (.int (nI i))] [] (zL I A (.ref 15)) = some (some (.int (zopt (FG g (zpc m) m).2[K - i]?)), zL I A (.ref 15))
  | k, m, i, hm, hs, hk, hi, hik => by
    have hm8 : m < 128 := by omega
    rw [B_BeltOrder_thingAt_16]
    by_cases c : K ≤ i
    · rw [if_pos (nI_le c (by omega)), show K - i = 0 by omega, List.head?_eq_getElem?]
    · rw [if_neg (nI_ge (by omega) hK)]
      cases k with
      | zero =>
        have e : (FG g (zpc m) m).2 = [] := by rw [hk]; rfl
        rw [e, if_pos (show zopt ([] : List Nat).head? = (-1000000 : Int32) from rfl)]
        rfl
      | succ k =>
        obtain ⟨a, a1, a2, a3⟩ := FG_cons (g := g) hm8 hk
        obtain ⟨q1, -, q3, -⟩ := bit_at hm8 a1 a2
        have hm' : m - 2 ^ a ≤ M := Nat.le_trans (Nat.sub_le _ _) hm
        have hs' := sub_rm hm8 hs a2
        have bb : ∀ t, (m - 2 ^ a).testBit t = true → t < g 3 := fun t ht => hb t (hs' t ht)
        have ff : ∀ t, (m - 2 ^ a).testBit t = true → fOk g A (m - 2 ^ a - 2 ^ t) := fun t ht => hf _ (Nat.le_trans (Nat.sub_le _ _) hm') (sub_rm (m128 hm8) hs' ht)
        rw [a3, show zopt (a :: (FG g (zpc (m - 2 ^ a)) (m - 2 ^ a)).2).head? = nI a from rfl, if_neg (zNn (by omega)), zmsk hm8 a1 a2, c_firstOf hc hB (m128 hm8) bb (hf _ hm' hs') ff d, zbI]
        dsimp only
        rw [nI_1, c_thingLoop hc hB hM hb hf hK d k (m - 2 ^ a) (i + 1) hm' hs' (by omega) (by omega) (by omega), show K - i = (K - (i + 1)) + 1 by omega, List.getElem?_cons_succ]
theorem zpc_le7 (m : Nat) : zpc m ≤ 7 := by
  have := zS_le (f := fun k => m / 2 ^ k % 2) (c := 1) 7 (fun k _ => by have := Nat.mod_two_eq_zero_or_one (m / 2 ^ k); show m / 2 ^ k % 2 ≤ 1; omega)
  have e : zpc m ≤ 7 * 1 := this
  omega
theorem c_thingAtO (hc : cR I A 15 g) (hB : gB g) (h3 : I 59 2 = nI (gset g 0)) (hf : ∀ m, m ≤ gset g 0 → sub m (gset g 0) → fOk g A m) {K : Nat} (hK : K < 2 ^ 31) (d : Nat) : pm_call L xs (d + 5) m_BeltOrder_thingAt [.ref 59, .ref 15, .int (nI K)] (zL I A (.ref 15)) = some (some (.int (zopt (FG g (zpc (gset g 0)) (gset g 0)).2[K]?)), zL I A (.ref 15)) := by
  have hg := gset_lt hB 0
  have hb : ∀ t, (gset g 0).testBit t = true → t < g 3 := fun t ht => by rw [gset_bit] at ht; simp at ht; exact ht.1
  have hs : sub (gset g 0) (gset g 0) := fun _ h => h
  have := zpc_le7 (gset g 0)
  rw [D_BeltOrder_thingAt, B_BeltOrder_thingAt_0, zg_59_2, zbS, h3, c_firstOf hc hB hg hb (hf _ (Nat.le_refl _) hs) (fun a ha => hf _ (Nat.sub_le _ _) (sub_rm hg hs ha)) d, zbI]
  dsimp only
  exact c_thingLoop hc hB hg hb hf hK d _ _ 0 (Nat.le_refl _) hs rfl (Nat.zero_le _) (by omega)
theorem zB_orb (Q : Nat → Bool) (t : Nat) (h : Q t = true) : zB Q t ||| 2 ^ t = zB Q (t + 1) := by
  apply Nat.eq_of_testBit_eq
  intro i
  rw [Nat.testBit_or, ztb, ztb, Nat.testBit_two_pow]
  by_cases e : i = t
  · subst e; simp [h]
  · by_cases c : i < t
    · simp [c, show i < t + 1 by omega, Ne.symm e]
    · simp [c, show ¬ i < t + 1 by omega, Ne.symm e]
def baseO (g : Nat → Nat) (c S : Nat) : Nat := zC (fun t => (decide (gc g t = 1) && decide (gp g t ≠ 0)) || (decide (gp g t = 3 + c) && decide (gbears g t < gload g t + S))) (g 3)
theorem c_crushedBy (hc : cR I A 15 g) (hB : gB g) (h3 : I 59 2 = nI (gset g 0)) (hf : fOk g A (gset g 0)) {c : Nat} (hcb : c < 100) (d : Nat) : pm_call L xs (d + 4) m_BeltOrder_crushedBy [.ref 59, .ref 15, .int (nI c)] (zL I A (.ref 15)) = some (some (.int (nI (baseO g c (PRm g (gset g 0)) + (FG g (zpc (gset g 0)) (gset g 0)).1))), zL I A (.ref 15)) := by
  have hg := gset_lt hB 0
  have h7 := hB.1
  obtain ⟨S, hS⟩ : ∃ S, S = PRm g (gset g 0) := ⟨_, rfl⟩
  have hSl : S < 2 ^ 24 := by rw [hS]; exact PRm_lt hB _
  have e3 : (3 : Int32) + nI c = nI (3 + c) := by rw [zl3, nI_add]
  rw [D_BeltOrder_crushedBy, B_BeltOrder_crushedBy_0, hc.crushed, zbS, zg_59_2, zbS, h3, zandn]
  have e0 : gbroken g ^^^ (gbroken g &&& gset g 0) = zB (fun t => decide (gc g t = 1) && decide (gp g t ≠ 0)) (g 3) := by
    apply Nat.eq_of_testBit_eq
    intro i
    unfold gbroken gset
    rw [Nat.testBit_xor, Nat.testBit_and, ztb, ztb, ztb]
    cases decide (i < g 3) <;> cases decide (gc g i = 1) <;> by_cases e : gp g i = 0 <;> simp [e]
  rw [e0]
  have key : ∀ t, t ≤ g 3 → zE L xs (d + 3) K_BeltOrder_crushedBy 15 [some (.ref 59), some (.ref 15), some (.int (nI c)), some (.int (nI (zB (fun t => decide (gc g t = 1) && decide (gp g t ≠ 0)) (g 3)))), some (.int (0 : Int32))] [] (zL I A (.ref 15)) = zE L xs (d + 3) K_BeltOrder_crushedBy 15 [some (.ref 59), some (.ref 15), some (.int (nI c)), some (.int (nI (zB (fun t => decide (gc g t = 1) && decide (gp g t ≠ 0)) (g 3) ||| zB (fun t => decide (gp g t = 3 + c) && decide (gbears g t < gload g t + S)) t))), some (.int (nI t))] [] (zL I A (.ref 15)) := by
    intro t
    induction t with
    | zero =>
      intro _
      rw [show zB (fun t => decide (gp g t = 3 + c) && decide (gbears g t < gload g t + S)) 0 = 0 from rfl, Nat.or_zero]
      rfl
    | succ t ih =>
      intro ht
      have ht3 : t < g 3 := by omega
      have hl := zgload_lt hB t
      have hbb := zgbears_le (g := g) t
      rw [ih (by omega), B_BeltOrder_crushedBy_15, hc.n, zbS, if_neg (nI_ge ht3 (by omega)), zSr4 hc.1, zbS, hc.place hB (.ref 15) ht3, zbS, e3]
      have es : ∀ Q : Nat → Bool, Q t = false → zB Q (t + 1) = zB Q t := fun Q q => by rw [zB_s, q]; rfl
      by_cases c1 : gp g t = 3 + c
      · rw [if_neg (fun q => q (by rw [c1])), c_loadOn L xs (d + 1) (.ref 15) hc hB ht3, zbI]
        dsimp only
        rw [zr_59_1, zbS, zg_59_2, zbS, h3, z_rd za_61 hg, zbS, hf.2, ← hS, c_bearsOf L xs (d + 1) (.ref 15) hc hB ht3, zbI]
        dsimp only
        rw [nI_add]
        by_cases c2 : gbears g t < gload g t + S
        · rw [if_neg (nI_ge c2 (by omega)), zsh (show t < 31 by omega), fa_or, Nat.or_assoc, zB_orb (fun t => decide (gp g t = 3 + c) && decide (gbears g t < gload g t + S)) t (by simp [c1, c2]), nI_1]
        · rw [if_pos (nI_le (by omega) (by omega)), es _ (by simp [c2]), nI_1]
      · rw [if_pos (fun q => c1 ((nI_eq (gbl hB _) (by omega)).mp q)), es _ (by simp [c1]), nI_1]
  have hfl : zB (fun t => decide (gc g t = 1) && decide (gp g t ≠ 0)) (g 3) ||| zB (fun t => decide (gp g t = 3 + c) && decide (gbears g t < gload g t + S)) (g 3) = zB (fun t => (decide (gc g t = 1) && decide (gp g t ≠ 0)) || (decide (gp g t = 3 + c) && decide (gbears g t < gload g t + S))) (g 3) := zB_or _ _ _
  rw [key (g 3) (Nat.le_refl _), B_BeltOrder_crushedBy_15, hc.n, zbS, if_pos (nI_le (Nat.le_refl _) (by omega)), hfl, c_bitCount L xs (d + 2) (.ref 15) (zB_128 _ h7), zbI]
  dsimp only
  rw [zr_59_0, zbS, zg_59_2, zbS, h3, z_rd za_60 hg, zbS, hf.1, nI_add, zpc_B _ _ h7, ← hS]
  rfl
/-! what packing a row does -/
def gPk (c : Nat) : List Nat → (Nat → Nat) → Nat → Nat
  | [], g => g
  | t :: r, g => gPk c r (gcomes g t (3 + c))
def aft (g : Nat → Nat) : List Nat → Nat → Nat
  | [], _ => 0
  | t :: r, u => if t = u then sumP g r else aft g r u
theorem sumP_c {t p : Nat} : ∀ r, sumP (gcomes g t p) r = sumP g r
  | [] => rfl
  | u :: r => by
    show gpress (gcomes g t p) u + sumP (gcomes g t p) r = _
    rw [gco_press, sumP_c r]
    rfl
theorem aft_c {t p u : Nat} : ∀ r, aft (gcomes g t p) r u = aft g r u
  | [] => rfl
  | v :: r => by
    show (if v = u then sumP (gcomes g t p) r else aft (gcomes g t p) r u) = _
    rw [sumP_c, aft_c r]
    rfl
theorem pk_n {c : Nat} : ∀ (p : List Nat) (g : Nat → Nat), (gPk c p g) 3 = g 3 ∧ (gPk c p g) 0 = g 0 ∧ (∀ u, gc (gPk c p g) u = gc g u ∧ gbears (gPk c p g) u = gbears g u)
  | [], _ => ⟨rfl, rfl, fun _ => ⟨rfl, rfl⟩⟩
  | t :: r, g => by
    obtain ⟨h1, h2, h3⟩ := pk_n (c := c) r (gcomes g t (3 + c))
    exact ⟨h1.trans gco_n, h2.trans (gcomes_h (by decide)), fun u => ⟨(h3 u).1.trans (gco_w (by decide) (by decide) (by decide)), (h3 u).2.trans (gco_bears u)⟩⟩
theorem pk_B {c : Nat} (hcb : c < 100) : ∀ (p : List Nat) (g : Nat → Nat), gB g → g 5 + p.length < 2 ^ 20 → gB (gPk c p g)
  | [], _, h, _ => h
  | t :: r, g, h, h5 => by
    rw [List.length_cons] at h5
    exact pk_B hcb r _ (gcomes_B h (by omega) (by omega)) (by rw [gco_5]; omega)
theorem pk_load {c : Nat} : ∀ (p : List Nat) (g : Nat → Nat), gU g → ndB p = true → (∀ t, t ∈ p → t < g 3 ∧ gp g t < 3) → ∀ u, u < g 3 → gload (gPk c p g) u = if u ∈ p then aft g p u else gload g u + (if gp g u = 3 + c then sumP g p else 0)
  | [], g, _, _, _, u, _ => by
    rw [if_neg (by simp)]
    show gload g u = gload g u + (if gp g u = 3 + c then 0 else 0)
    split <;> omega
  | t :: r, g, hU, hn, hp, u, hu => by
    have hn' : r.contains t = false ∧ ndB r = true := by
      unfold ndB at hn
      simpa using hn
    have htr : t ∉ r := by simpa using hn'.1
    obtain ⟨ht, hpt⟩ := hp t List.mem_cons_self
    have hp2 : ∀ v, v ∈ r → v < gcomes g t (3 + c) 3 ∧ gp (gcomes g t (3 + c)) v < 3 := fun v hv => by
      have hne : v ≠ t := fun e => htr (e ▸ hv)
      rw [gco_n, gco_po hne]
      exact hp v (List.mem_cons_of_mem _ hv)
    have ih := pk_load (c := c) r (gcomes g t (3 + c)) (gco_U hU) hn'.2 hp2 u (by rw [gco_n]; exact hu)
    show gload (gPk c r (gcomes g t (3 + c))) u = _
    rw [ih, aft_c, sumP_c]
    by_cases e : u = t
    · subst e
      rw [if_neg htr, if_pos List.mem_cons_self, gco_load0 hU, gco_pt, if_pos rfl, Nat.zero_add]
      show _ = if u = u then sumP g r else _
      rw [if_pos rfl]
    · by_cases q : u ∈ r
      · rw [if_pos q, if_pos (List.mem_cons_of_mem _ q)]
        show _ = if t = u then _ else aft g r u
        rw [if_neg (fun e2 => e e2.symm)]
      · have hnm : ¬ u ∈ t :: r := fun q2 => by
          rcases List.mem_cons.mp q2 with q3 | q3
          · exact e q3
          · exact q q3
        rw [if_neg q, if_neg hnm, gco_po e, gco_load hU ht hpt hu e]
        show _ = gload g u + (if gp g u = 3 + c then gpress g t + sumP g r else 0)
        split <;> omega
theorem zC_out (Q : Nat → Bool) (t n : Nat) (ht : t < n) : zC Q n = zC (fun u => Q u && decide (u ≠ t)) n + (if Q t = true then 1 else 0) := by
  by_cases c : Q t = true
  · rw [if_pos c]; exact zC_rm n ht c
  · rw [if_neg c, Nat.add_zero]
    refine zC_congr n (fun u hu => ?_)
    by_cases e : u = t
    · subst e; simp [c]
    · simp [e]
def cntL (Q : Nat → Bool) : List Nat → Nat
  | [] => 0
  | t :: r => (if Q t = true then 1 else 0) + cntL Q r
theorem zC_list (Q : Nat → Bool) (n : Nat) : ∀ (p : List Nat), ndB p = true → (∀ t, t ∈ p → t < n) → zC Q n = zC (fun u => Q u && !(p.contains u)) n + cntL Q p
  | [], _, _ => by
    show zC Q n = zC (fun u => Q u && !(([] : List Nat).contains u)) n + 0
    rw [Nat.add_zero]
    exact zC_congr n (fun u _ => by simp)
  | t :: r, hn, hp => by
    have hn' : r.contains t = false ∧ ndB r = true := by
      unfold ndB at hn
      simpa using hn
    rw [zC_list Q n r hn'.2 (fun v hv => hp v (List.mem_cons_of_mem _ hv)), zC_out (fun u => Q u && !(r.contains u)) t n (hp t List.mem_cons_self)]
    show _ = _ + ((if Q t = true then 1 else 0) + cntL Q r)
    rw [hn'.1]
    have e : zC (fun u => Q u && !(r.contains u) && decide (u ≠ t)) n = zC (fun u => Q u && !((t :: r).contains u)) n := by
      refine zC_congr n (fun u _ => ?_)
      rw [List.contains_cons]
      by_cases e : u = t
      · subst e; simp
      · have e1 : (u == t) = false := by simpa using e
        simp [e, e1]
    rw [e]
    simp
    omega
theorem cnt_cost : ∀ (p : List Nat), ndB p = true → ∀ Q : Nat → Bool, (∀ t, t ∈ p → Q t = (decide (gc g t = 1) || decide (gbears g t < aft g p t))) → cntL Q p = costP g p
  | [], _, _, _ => rfl
  | t :: r, hn, Q, hQ => by
    have hn' : r.contains t = false ∧ ndB r = true := by
      unfold ndB at hn
      simpa using hn
    have htr : t ∉ r := by simpa using hn'.1
    have h1 := hQ t List.mem_cons_self
    have e1 : aft g (t :: r) t = sumP g r := if_pos rfl
    rw [e1] at h1
    show (if Q t = true then 1 else 0) + cntL Q r = brk g t (sumP g r) + costP g r
    rw [cnt_cost r hn'.2 Q (fun u hu => by
      have hne : t ≠ u := fun e => htr (e ▸ hu)
      rw [hQ u (List.mem_cons_of_mem _ hu), show aft g (t :: r) u = aft g r u from if_neg hne]), h1]
    unfold brk
    congr 1
    by_cases c : gc g t = 1 ∨ gbears g t < sumP g r
    · rw [if_pos c]
      rcases c with c | c <;> simp [c]
    · rw [if_neg c]
      have c1 : ¬ gc g t = 1 := fun q => c (Or.inl q)
      have c2 : ¬ gbears g t < sumP g r := fun q => c (Or.inr q)
      simp [c1, c2]
/-- how many are crushed if a row of the BELT is packed -/
theorem pk_cost {c S : Nat} (hU : gU g) (hO : gO g) (hB : gB g) (hcb : c < 100) {p : List Nat} (h5 : g 5 + p.length < 2 ^ 20) (hok : okP (gset g 0) p = true) (hS : sumP g p = S) : zpc (gbroken (gcr (gPk c p g) (g 3))) = baseO g c S + costP g p := by
  have h7 := hB.1
  have hp1 : (∀ t, t < 7 → (gset g 0).testBit t = p.contains t) ∧ ndB p = true ∧ ∀ t, t ∈ p → t < 7 := by
    unfold okP at hok
    simp only [Bool.and_eq_true, List.all_eq_true, List.mem_range, beq_iff_eq, decide_eq_true_eq] at hok
    exact hok
  obtain ⟨q1, q2, q3⟩ := hp1
  have mem : ∀ t, t ∈ p → t < g 3 ∧ gp g t = 0 := fun t ht => by
    have := q1 t (q3 t ht)
    rw [gset_bit, show p.contains t = true by simpa using ht] at this
    simpa using this
  have mem2 : ∀ t, t < g 3 → (p.contains t = decide (gp g t = 0)) := fun t ht => by
    have := q1 t (by omega)
    rw [gset_bit] at this
    rw [← this]
    simp [ht]
  obtain ⟨k1, -, k3⟩ := pk_n (c := c) p g
  have hbr : gbroken (gcr (gPk c p g) (g 3)) = gbroken (gPk c p g) ||| gover (gPk c p g) := by
    have := gcr_broken (g := gPk c p g)
    rw [k1] at this
    exact this
  rw [hbr]
  unfold gbroken gover
  rw [k1, zB_or, zpc_B _ _ h7, zC_list _ (g 3) p q2 (fun t ht => (mem t ht).1)]
  congr 1
  · unfold baseO
    refine zC_congr _ (fun u hu => ?_)
    rw [(k3 u).1, (k3 u).2, pk_load p g hU q2 (fun t ht => ⟨(mem t ht).1, by rw [(mem t ht).2]; decide⟩) u hu, mem2 u hu, hS]
    by_cases e : gp g u = 0
    · have : u ∈ p := by
        have := mem2 u hu
        simp [e] at this
        exact this
      simp [e]
      omega
    · have hnm : u ∉ p := fun q => e (mem u q).2
      rw [if_neg hnm]
      by_cases c1 : gc g u = 1
      · simp [c1, e]
      · have h2 : ¬ gbears g u < gload g u := fun q => c1 (hO u hu q)
        by_cases c3 : gp g u = 3 + c
        · simp [c1, c3]
        · simp [c1, c3]
          omega
  · refine cnt_cost p q2 _ (fun t ht => ?_)
    rw [(k3 t).1, (k3 t).2, pk_load p g hU q2 (fun t ht => ⟨(mem t ht).1, by rw [(mem t ht).2]; decide⟩) t (mem t ht).1, if_pos ht]
end
