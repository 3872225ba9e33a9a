section
variable {L : Nat} {xs : Nat → Int32} {B : Nat} {g : Nat → Nat} {I A : Nat → Nat → Int32} {b : Value}
theorem gPk_app {c : Nat} (t : Nat) : ∀ (l : List Nat) (g : Nat → Nat), gPk c (l ++ [t]) g = gcomes (gPk c l g) t (3 + c)
  | [], _ => rfl
  | u :: l, g => gPk_app t l (gcomes g u (3 + c))
theorem take_s {p : List Nat} {j : Nat} (h : j < p.length) : p.take (j + 1) = p.take j ++ [p.getD j 0] := by
  rw [List.take_succ, List.getD_eq_getElem?_getD, List.getElem?_eq_getElem h]
  rfl
theorem LPm_len : ∀ (k m : Nat) (p : List Nat), p ∈ LPm k m → p.length = k
  | 0, _, p, h => by
    have : p = [] := by simpa [LPm] using h
    rw [this]
    rfl
  | k + 1, m, p, h => by
    have h2 : p ∈ (bl m).flatMap fun a => (LPm k (m - 2 ^ a)).map fun p => a :: p := h
    rw [List.mem_flatMap] at h2
    obtain ⟨a, -, h3⟩ := h2
    rw [List.mem_map] at h3
    obtain ⟨q, hq, rfl⟩ := h3
    rw [List.length_cons, LPm_len k _ q hq]
def lOpt (acc : Option (Nat × List Nat)) : Int32 := match acc with
  | none => -1000000
  | some y => nI y.1
/-- the loops within one row's turn -/
theorem m_packRow {p : List Nat} {c : Nat} (hcb : c < 100) (ht : tR A 74 p) (hp : pGood p) (hm : mR A 70 g) (i2 i4 i5 : Int32) (y7 : Option Value) : ∃ A', zE L xs 59 K_Model_order 96 [some (.ref 64), some (.int (nI c)), some (.int i2), some (.int (nI p.length)), some (.int i4), some (.int i5), some (.int (0 : Int32)), y7] [] (zL I A b) = zE L xs 59 K_Model_order 96 [some (.ref 64), some (.int (nI c)), some (.int i2), some (.int (nI p.length)), some (.int i4), some (.int i5), some (.int (nI p.length)), y7] [] (zL I A' b) ∧ mR A' 70 (gPk c p g) ∧ ∀ q, q ≠ 70 → A' q = A q := by
  have h7 := hp.1
  have key : ∀ j, j ≤ p.length → ∃ A', zE L xs 59 K_Model_order 96 [some (.ref 64), some (.int (nI c)), some (.int i2), some (.int (nI p.length)), some (.int i4), some (.int i5), some (.int (0 : Int32)), y7] [] (zL I A b) = zE L xs 59 K_Model_order 96 [some (.ref 64), some (.int (nI c)), some (.int i2), some (.int (nI p.length)), some (.int i4), some (.int i5), some (.int (nI j)), y7] [] (zL I A' b) ∧ mR A' 70 (gPk c (p.take j) g) ∧ ∀ q, q ≠ 70 → A' q = A q := by
    intro j
    induction j with
    | zero => intro _; exact ⟨A, rfl, hm, fun _ _ => rfl⟩
    | succ j ih =>
      intro hj
      obtain ⟨A1, e1, e2, e3⟩ := ih (by omega)
      have r1 : pm_rd 0 (zL I A1 b) 74 (nI j) = some (nI (p.getD j 0)) := by rw [z_rd za_74 (by omega), e3 74 (by decide), ht j (by omega)]
      obtain ⟨A2, x1, x2, x3⟩ := m_comes L xs 58 I b e2 (t := p.getD j 0) (p := 3 + c) (hp.at (by omega))
      refine ⟨A2, ?_, ?_, fun q hq => by rw [x3 q hq, e3 q hq]⟩
      · rw [e1, B_Model_order_96, if_neg (nI_ge (by omega) (by omega)), zr_64_7, zbS, zr_64_24, zbS, r1, zbS, zl3, nI_add, x1, zbV, nI_1]
      · rw [take_s (by omega), gPk_app]
        exact x2
  obtain ⟨A1, e1, e2, e3⟩ := key p.length (Nat.le_refl _)
  rw [List.take_length] at e2
  exact ⟨A1, e1, e2, e3⟩
theorem m_copyRow {p : List Nat} (ht : tR A 74 p) (hp : pGood p) (i1 i2 i4 i5 i6 : Int32) : ∃ A', zE L xs 59 K_Model_order 165 [some (.ref 64), some (.int i1), some (.int i2), some (.int (nI p.length)), some (.int i4), some (.int i5), some (.int i6), some (.int (0 : Int32))] [] (zL I A b) = zE L xs 59 K_Model_order 165 [some (.ref 64), some (.int i1), some (.int i2), some (.int (nI p.length)), some (.int i4), some (.int i5), some (.int i6), some (.int (nI p.length))] [] (zL I A' b) ∧ tR A' 75 p ∧ ∀ q, q ≠ 75 → A' q = A q := by
  have h7 := hp.1
  refine ⟨zcp A 75 0 p.length (A 74), ?_, fun j hj => ?_, fun q hq => zcp_o hq⟩
  · rw [zfill (fun i A => zE L xs 59 K_Model_order 165 [some (.ref 64), some (.int i1), some (.int i2), some (.int (nI p.length)), some (.int i4), some (.int i5), some (.int i6), some (.int i)] [] (zL I A b)) A 75 0 p.length (A 74) (fun k hk => ?_)]
    rw [B_Model_order_165, if_neg (nI_ge hk (by omega)), zr_64_25, zbS, zr_64_24, zbS, z_rd za_74 (by omega), zbS, zcp_o (by decide), z_wr za_75 (by omega), zbS, Nat.zero_add]
  · have := zcp_at (A := A) (q := 75) (p := 0) (n := p.length) (f := A 74) hj
    rw [Nat.zero_add] at this
    rw [this, ht j hj]
theorem m_turns {c S : Nat} (hm : mR A 68 g) (hB : gB g) (hU : gU g) (hO : gO g) (h5 : g 5 + 7 < 2 ^ 20) (hcb : c < 100) (i2 : Int32) {n : Nat} (hn : n ≤ 7) : ∀ (l : List (List Nat)) (A0 : Nat → Nat → Int32) (acc : Option (Nat × List Nat)) (y6 y7 : Option Value), Ch l none → (∀ p, p ∈ l → okP (gset g 0) p = true ∧ sumP g p = S ∧ p.length = n ∧ pGood p) → (∀ q, q ≠ 70 → q ≠ 74 → q ≠ 75 → A0 q = A q) → (∀ p, l.head? = some p → tR A0 74 p) → (∀ y, acc = some y → tR A0 75 y.2 ∧ y.1 < 2 ^ 20 ∧ y.2.length = n) → ∃ A' y6' y7' z, zE L xs 59 K_Model_order 84 [some (.ref 64), some (.int (nI c)), some (.int i2), some (.int (nI n)), some (.int (lOpt acc)), some (.int 1), y6, y7] [] (zL I A0 b) = zE L xs 59 K_Model_order 84 [some (.ref 64), some (.int (nI c)), some (.int i2), some (.int (nI n)), some (.int (nI z.1)), some (.int 0), y6', y7'] [] (zL I A' b) ∧ fbP g (baseO g c S) acc l = some z ∧ tR A' 75 z.2 ∧ z.2.length = n ∧ ∀ q, q ≠ 70 → q ≠ 74 → q ≠ 75 → A' q = A q
  | [], _, _, _, _, h, _, _, _, _ => absurd h (fun q => q)
  | p :: r, A0, acc, y6, y7, hch, hall, hfr, htr, hacc => by
    obtain ⟨ok, hS, hl, hpg⟩ := hall p List.mem_cons_self
    have ht : tR A0 74 p := htr p rfl
    have hm0 : mR A0 68 g := hm.c (hfr 68 (by decide) (by decide) (by decide))
    have hB7 : g 5 + p.length < 2 ^ 20 := by omega
    have hgB := pk_B hcb p g hB hB7
    obtain ⟨k1, k2, k3⟩ := pk_n (c := c) p g
    rw [B_Model_order_84, if_neg (by decide), m_layThen hm0, zbV]
    obtain ⟨A1, e1, e2, e3⟩ := m_packRow (L := L) (xs := xs) (I := I) (b := b) (A := zcp A0 70 0 55 (A0 68)) hcb (p := p) (fun j hj => by rw [zcp_o (by decide)]; exact ht j hj) hpg (m_then hm0) i2 (lOpt acc) 1 y7
    rw [hl] at e1
    obtain ⟨A2, f1, f2, f3⟩ := m_crush L xs 55 I b e2 hgB
    rw [k1] at f2
    have hcB : gB (gcr (gPk c p g) (g 3)) := gcr_B hgB _
    have hbr : gbroken (gcr (gPk c p g) (g 3)) < 2 ^ 31 := Nat.lt_of_lt_of_le (zB_128 _ hcB.1) (by decide)
    have hcost : zpc (gbroken (gcr (gPk c p g) (g 3))) = baseO g c S + costP g p := pk_cost hU hO hB hcb hB7 ok hS
    have hv7 : baseO g c S + costP g p ≤ 7 := by rw [← hcost]; exact zpc_le7 _
    have fr2 : ∀ q, q ≠ 70 → A2 q = A0 q := fun q hq => by rw [f3 q hq, e3 q hq, zcp_o hq]
    have ht2 : tR A2 74 p := fun j hj => by rw [fr2 74 (by decide)]; exact ht j hj
    rw [e1, B_Model_order_96, if_pos (nI_le (Nat.le_refl _) (by omega)), zr_64_7, zbS, f1, zbV, zr_64_7, zbS, m_broken L xs 57 I b f2 hcB, zbI]
    dsimp only
    rw [m_bits L xs 58 hbr, zbI, hcost]
    dsimp only
    obtain ⟨v, hv⟩ : ∃ v, v = baseO g c S + costP g p := ⟨_, rfl⟩
    rw [← hv] at hv7 ⊢
    have hfb : fbP g (baseO g c S) acc (p :: r) = fbP g (baseO g c S) (st1 acc (v, p)) r := by rw [hv]; rfl
    rw [hfb]
    have cont : ∀ (acc' : Option (Nat × List Nat)) (A3 : Nat → Nat → Int32) (w y7' : Option Value), (∃ y, acc' = some y) → (∀ q, q ≠ 70 → q ≠ 75 → A3 q = A0 q) → (∀ y, acc' = some y → tR A3 75 y.2 ∧ y.1 < 2 ^ 20 ∧ y.2.length = n) → ∃ A' y6' y7'' z, ((pm_cI (pm_call L xs 59 m_Model_nextRow [.ref 64, .int (nI n)] (zL I A3 b))).bind fun z6 => zE L xs 59 K_Model_order 84 [some (.ref 64), some (.int (nI c)), some (.int i2), some (.int (nI n)), some (.int (lOpt acc')), some (.int z6.1), w, y7'] [] z6.2) = zE L xs 59 K_Model_order 84 [some (.ref 64), some (.int (nI c)), some (.int i2), some (.int (nI n)), some (.int (nI z.1)), some (.int 0), y6', y7''] [] (zL I A' b) ∧ fbP g (baseO g c S) acc' r = some z ∧ tR A' 75 z.2 ∧ z.2.length = n ∧ ∀ q, q ≠ 70 → q ≠ 74 → q ≠ 75 → A' q = A q := by
      intro acc' A3 w y7' hsome h3 hacc'
      have ht3 : tR A3 74 p := fun j hj => by rw [h3 74 (by decide) (by decide)]; exact ht j hj
      obtain ⟨A4, n1, n2, n3⟩ := m_nextRow (L := L) (xs := xs) (I := I) (b := b) ht3 hpg 58
      rw [hl] at n1
      rw [n1, zbI]
      dsimp only
      have hac4 : ∀ y, acc' = some y → tR A4 75 y.2 ∧ y.1 < 2 ^ 20 ∧ y.2.length = n := fun y hy => ⟨fun j hj => by rw [n3 75 (by decide)]; exact (hacc' y hy).1 j hj, (hacc' y hy).2⟩
      have fr4 : ∀ q, q ≠ 70 → q ≠ 74 → q ≠ 75 → A4 q = A q := fun q q1 q2 q3 => by rw [n3 q q2, h3 q q1 q3, hfr q q1 q2 q3]
      cases r with
      | nil =>
        have hnx : nxI p = none := hch
        obtain ⟨y, hy⟩ := hsome
        rw [hnx, hy]
        refine ⟨A4, w, y7', y, rfl, rfl, (hac4 y hy).1, (hac4 y hy).2.2, fr4⟩
      | cons q r =>
        have hnx : nxI p = some q := hch.1
        rw [hnx]
        exact m_turns hm hB hU hO h5 hcb i2 hn (q :: r) A4 acc' w y7' hch.2 (fun x hx => hall x (List.mem_cons_of_mem _ hx)) fr4 (fun x hx => by
          have : q = x := by simpa using hx
          subst this
          exact (n2 q hnx).1) hac4
    have copy : ∀ (w : Option Value), ∃ A' y6' y7'' z, zE L xs 59 K_Model_order 165 [some (.ref 64), some (.int (nI c)), some (.int i2), some (.int (nI n)), some (.int (nI v)), some (.int 1), some (.int (nI v)), some (.int (0 : Int32))] [] (zL I A2 b) = zE L xs 59 K_Model_order 84 [some (.ref 64), some (.int (nI c)), some (.int i2), some (.int (nI n)), some (.int (nI z.1)), some (.int 0), y6', y7''] [] (zL I A' b) ∧ fbP g (baseO g c S) (some (v, p)) r = some z ∧ tR A' 75 z.2 ∧ z.2.length = n ∧ ∀ q, q ≠ 70 → q ≠ 74 → q ≠ 75 → A' q = A q := by
      intro w
      obtain ⟨A3, g1, g2, g3⟩ := m_copyRow (L := L) (xs := xs) (I := I) (b := b) ht2 hpg (nI c) i2 (nI v) 1 (nI v)
      rw [hl] at g1
      rw [g1, B_Model_order_165, if_pos (nI_le (Nat.le_refl _) (by omega))]
      exact cont (some (v, p)) A3 (some (.int (nI v))) (some (.int (nI n))) ⟨_, rfl⟩ (fun q q1 q2 => by rw [g3 q q2, fr2 q q1]) (fun y hy => by cases hy; exact ⟨g2, by show v < 2 ^ 20; omega, hl⟩)
    cases acc with
    | none =>
      rw [if_pos (show lOpt none = (-1000000 : Int32) from rfl)]
      exact copy none
    | some y =>
      obtain ⟨a1, a2, a3⟩ := hacc y rfl
      rw [show lOpt (some y) = nI y.1 from rfl, if_neg (zNn (by omega))]
      by_cases cc : v < y.1
      · rw [if_neg (nI_ge cc (by omega)), show st1 (some y) (v, p) = some (v, p) from if_pos cc]
        exact copy none
      · rw [if_pos (nI_le (by omega) (by omega)), show st1 (some y) (v, p) = some y from if_neg cc]
        exact cont (some y) A2 (some (.int (nI v))) y7 ⟨_, rfl⟩ (fun q q1 q2 => fr2 q q1) (fun y' hy => by cases hy; exact ⟨fun j hj => by rw [fr2 75 (by decide)]; exact a1 j hj, a2, a3⟩)
def fl (g : Nat → Nat) (t : Nat) : List Nat := (List.range t).filter fun u => decide (gp g u = 0)
theorem fl_s (t : Nat) : fl g (t + 1) = if gp g t = 0 then fl g t ++ [t] else fl g t := by
  unfold fl
  rw [List.range_succ, List.filter_append]
  by_cases c : gp g t = 0
  · rw [if_pos c]; simp [c]
  · rw [if_neg c]; simp [c]
theorem fl_bl (hB : gB g) : fl g (g 3) = bl (gset g 0) := by
  have h7 := hB.1
  have key : ∀ n, g 3 ≤ n → (List.range n).filter (fun t => (gset g 0).testBit t) = fl g (g 3) := by
    intro n
    induction n with
    | zero =>
      intro h
      unfold fl
      rw [show g 3 = 0 by omega]
      rfl
    | succ n ih =>
      intro h
      by_cases e : g 3 = n + 1
      · unfold fl
        rw [e]
        refine List.filter_congr (fun t ht => ?_)
        rw [List.mem_range] at ht
        rw [gset_bit]
        simp [show t < g 3 by omega]
      · rw [List.range_succ, List.filter_append, ih (by omega)]
        have : (gset g 0).testBit n = false := by rw [gset_bit]; simp; omega
        simp [this]
  exact (key 7 h7).symm
theorem fl_len (t : Nat) : (fl g t).length ≤ t := by
  unfold fl
  have := List.length_filter_le (fun u => decide (gp g u = 0)) (List.range t)
  rw [List.length_range] at this
  exact this
theorem m_fillO (hm : mR A 68 g) (hB : gB g) (i1 i2 : Int32) : ∃ A', zE L xs 59 K_Model_order 36 [some (.ref 64), some (.int i1), some (.int i2), some (.int (0 : Int32)), some (.int (0 : Int32)), none, none, none] [] (zL I A b) = zE L xs 59 K_Model_order 84 [some (.ref 64), some (.int i1), some (.int i2), some (.int (nI (bl (gset g 0)).length)), some (.int (-1000000 : Int32)), some (.int (1 : Int32)), none, none] [] (zL I A' b) ∧ tR A' 74 (bl (gset g 0)) ∧ ∀ q, q ≠ 74 → A' q = A q := by
  have h7 := hB.1
  have key : ∀ t, t ≤ g 3 → ∃ A', zE L xs 59 K_Model_order 36 [some (.ref 64), some (.int i1), some (.int i2), some (.int (0 : Int32)), some (.int (0 : Int32)), none, none, none] [] (zL I A b) = zE L xs 59 K_Model_order 36 [some (.ref 64), some (.int i1), some (.int i2), some (.int (nI (fl g t).length)), some (.int (nI t)), none, none, none] [] (zL I A' b) ∧ tR A' 74 (fl g t) ∧ ∀ q, q ≠ 74 → A' q = A q := by
    intro t
    induction t with
    | zero => intro _; exact ⟨A, rfl, fun j hj => absurd hj (Nat.not_lt_zero _), fun _ _ => rfl⟩
    | succ t ih =>
      intro ht
      obtain ⟨A1, e1, e2, e3⟩ := ih (by omega)
      have hm1 : mR A1 68 g := hm.c (e3 68 (by decide))
      have hl := fl_len (g := g) t
      rw [e1, B_Model_order_36, zr_64_5, zbS, m_rd' I b hm1 zl3 (show 3 < 55 by decide), zbS, if_neg (nI_ge (by omega) (by omega)), zbS, m_of' L xs 58 I b hm1 zl3 (show t < 7 by omega) (show 3 < 7 by decide), zbI, fl_s]
      dsimp only
      by_cases c : gp g t = 0
      · have c' : g (6 + 7 * t + 3) = 0 := c
        rw [c', if_neg (fun q => q rfl), zr_64_24, zbS, z_wr za_74 (by omega), zbS, nI_1, nI_1, if_pos c, List.length_append]
        refine ⟨_, rfl, fun j hj => ?_, fun q hq => by rw [zuA_o hq, e3 q hq]⟩
        rw [List.length_append] at hj
        have hj' : j < (fl g t).length + 1 := hj
        rw [zuA_s]
        by_cases e : j = (fl g t).length
        · subst e
          rw [pk_us]
          simp
        · rw [pk_un e, e2 j (by omega), List.getD_eq_getElem?_getD, List.getD_eq_getElem?_getD, List.getElem?_append_left (by omega)]
      · rw [if_pos (show ¬ nI (g (6 + 7 * t + 3)) = (0 : Int32) by rw [zl0, znI (gbl hB _) (by decide)]; exact c), nI_1, if_neg c]
        exact ⟨A1, rfl, e2, e3⟩
  obtain ⟨A1, e1, e2, e3⟩ := key (g 3) (Nat.le_refl _)
  have hm1 : mR A1 68 g := hm.c (e3 68 (by decide))
  rw [fl_bl hB] at e1 e2
  refine ⟨A1, ?_, e2, e3⟩
  rw [e1, B_Model_order_36, zr_64_5, zbS, m_rd' I b hm1 zl3 (show 3 < 55 by decide), zbS, if_pos (nI_le (Nat.le_refl _) (by omega))]
theorem P_order (h : Rel B I A) (hB2 : B + 7 < 2 ^ 20) (v w : Int32) : zOk L xs B m_Eggs_order m_Model_order [.int v, .int w] I A b := by
  have hw := h
  obtain ⟨g, -, -, -, hZ, hS, -, -⟩ := hw
  obtain ⟨hc, hm, hI⟩ := hS
  have hB := hI.1
  have h3 := hB.2.1
  have hU := hI.2.2.1
  have hO := hI.2.2.2.1
  have h5 := hI.2.2.2.2.1
  have hg := gset_lt hB 0
  by_cases h0 : 0 < g 0
  · by_cases h1 : 0 ≤ v.toInt ∧ v.toInt < (g 0 : Int)
    · obtain ⟨c, hc0, rfl⟩ := zth h1
      by_cases hwm : (-1 : Int32) ≤ w
      · obtain ⟨I1, A1, x1, x2, x3, x4, x5, x6⟩ := c_seek (L := L) (xs := xs) (b := b) hc hB hZ 54
        have hc1 : cR I1 A1 15 g := hc.c (funext fun k => x6 15 k (by omega)) (fun q _ _ => x3 q (by omega) (by omega))
        have hm1 : mR A1 68 g := hm.c (x3 68 (by decide) (by decide))
        obtain ⟨M, hM⟩ : ∃ M, M = gset g 0 := ⟨_, rfl⟩
        obtain ⟨A2, y1, y2, y3⟩ := m_fillO (L := L) (xs := xs) (I := zuI I1 64 0 0) (b := .ref 15) hm1 hB (nI c) w
        obtain ⟨p1, p2, p3, p4⟩ := LPm_ch (zpc (gset g 0)) (gset g 0) hg rfl
        obtain ⟨b1, b2⟩ := best_ok (g := g) (zpc (gset g 0)) (gset g 0) (baseO g c (PRm g (gset g 0))) hg rfl
        have hlb : (bl (gset g 0)).length = zpc (gset g 0) := (pos_at hg).2
        have hz7 := zpc_le7 (gset g 0)
        rw [hlb] at y1
        have hm2 : mR A2 68 g := hm1.c (y3 68 (by decide))
        obtain ⟨A3, y6, y7, z, t1, t2, t3, t4, t5⟩ := m_turns (L := L) (xs := xs) (I := zuI I1 64 0 0) (b := .ref 15) (c := c) (S := PRm g (gset g 0)) hm2 hB hU hO (by omega) (by omega) w hz7 (LPm (zpc (gset g 0)) (gset g 0)) A2 none none none p1 (fun p hp => ⟨p4 p hp, b1 p hp, LPm_len _ _ p hp, ⟨by rw [LPm_len _ _ p hp]; exact hz7, fun t ht => by
          have := p4 p hp
          unfold okP at this
          simp only [Bool.and_eq_true, List.all_eq_true, decide_eq_true_eq] at this
          exact this.2.2 t ht⟩⟩) (fun _ _ _ _ => rfl) (fun p hp => by rw [p2] at hp; cases hp; exact y2) (fun y hy => by cases hy)
        rw [b2] at t2
        injection t2 with t2
        subst t2
        dsimp only at t1 t3 t4
        have hb7 : baseO g c (PRm g (gset g 0)) ≤ g 3 := zC_le _ _
        have hF7 := (FG_le (g := g) (zpc (gset g 0)) (gset g 0) hg rfl).1
        have hg7 := hB.1
        have hs1 : zSame I A I1 A1 := ⟨fun o k hk => x6 o k (fun e => by rw [e.1] at hk; simp [zKI] at hk), fun q hq => x3 q (fun e => by rw [e] at hq; simp [zKA] at hq) (fun e => by rw [e] at hq; simp [zKA] at hq), by rw [x4.1, hZ.1], by rw [x4.2, hZ.2]⟩
        have hs2 : zSame I1 A1 (zuI I1 64 0 0) A3 := by
          refine (zSame.fI 64 0 0 rfl).trans ⟨fun _ _ _ => rfl, fun q hq => ?_, by rw [t5 60 (by decide) (by decide) (by decide), y3 60 (by decide)], by rw [t5 61 (by decide) (by decide) (by decide), y3 61 (by decide)]⟩
          rw [t5 q (fun e => by rw [e] at hq; simp [zKA] at hq) (fun e => by rw [e] at hq; simp [zKA] at hq) (fun e => by rw [e] at hq; simp [zKA] at hq), y3 q (fun e => by rw [e] at hq; simp [zKA] at hq)]
        by_cases cm : w = -1
        · subst cm
          refine zOk.scr (I1 := I1) (A1 := A1) (b1 := .ref 15) (I2 := zuI I1 64 0 0) (A2 := A3) (r := nI (baseO g c (PRm g (gset g 0)) + (FG g (zpc (gset g 0)) (gset g 0)).1)) h ?_ hs1 ?_ hs2
          · rw [D_Eggs_order, B_Eggs_order_0, zr_0_2, zbS, c_stands L xs 58 b hc hB, zbI]
            dsimp only
            rw [if_pos h0, if_pos (by decide), zr_0_2, zbS, c_hasBag L xs 58 b hc hB, zbI]
            dsimp only
            rw [if_pos h1, if_neg (by decide), if_pos hwm, zr_0_7, zbS, zr_0_2, zbS, x1, zbV, if_neg (fun q => q rfl), zr_0_7, zbS, zr_0_2, zbS, c_crushedBy hc1 hB x5 (x2 _ (Nat.le_refl _) (fun _ q => q)) (by omega) 55, zbI]
          · rw [D_Model_order, B_Model_order_0, zp_64_0, zbS, m_isThere L xs 58 _ (.ref 15) hm1 hB, zbI]
            dsimp only
            rw [if_pos h0, if_pos (by decide), m_isBag L xs 57 _ (.ref 15) hm1 hB, zbI]
            dsimp only
            rw [if_pos h1, if_neg (by decide), if_pos hwm, y1]
            refine Eq.trans t1 ?_
            rw [B_Model_order_84, if_pos rfl, if_neg (fun q => q rfl)]
        · obtain ⟨K, hK, rfl⟩ : ∃ K, K < 2 ^ 31 ∧ w = nI K := by
            refine nI_of (fun q => cm ?_)
            have e0 : (0 : Int32).toInt = 0 := rfl
            have e1 : (-1 : Int32).toInt = -1 := rfl
            rw [fa_le, e1] at hwm
            rw [fa_lt, e0] at q
            rw [fa_eq, e1]
            omega
          refine zOk.scr (I1 := I1) (A1 := A1) (b1 := .ref 15) (I2 := zuI I1 64 0 0) (A2 := A3) (r := zopt (FG g (zpc (gset g 0)) (gset g 0)).2[K]?) h ?_ hs1 ?_ hs2
          · rw [D_Eggs_order, B_Eggs_order_0, zr_0_2, zbS, c_stands L xs 58 b hc hB, zbI]
            dsimp only
            rw [if_pos h0, if_pos (by decide), zr_0_2, zbS, c_hasBag L xs 58 b hc hB, zbI]
            dsimp only
            rw [if_pos h1, if_neg (by decide), if_pos hwm, zr_0_7, zbS, zr_0_2, zbS, x1, zbV, if_pos cm, zr_0_7, zbS, zr_0_2, zbS, c_thingAtO hc1 hB x5 x2 hK 54, zbI]
          · rw [D_Model_order, B_Model_order_0, zp_64_0, zbS, m_isThere L xs 58 _ (.ref 15) hm1 hB, zbI]
            dsimp only
            rw [if_pos h0, if_pos (by decide), m_isBag L xs 57 _ (.ref 15) hm1 hB, zbI]
            dsimp only
            rw [if_pos h1, if_neg (by decide), if_pos hwm, y1]
            refine Eq.trans t1 ?_
            rw [B_Model_order_84, if_pos rfl, if_pos cm]
            by_cases ck : zpc (gset g 0) ≤ K
            · rw [if_pos (nI_le ck hK), List.getElem?_eq_none (by rw [t4]; exact ck)]
              rfl
            · rw [if_neg (nI_ge (by omega) (by omega)), zr_64_25, zbS, z_rd za_75 (by omega), zbS, t3 K (by rw [t4]; omega), List.getD_eq_getElem?_getD, List.getElem?_eq_getElem (by rw [t4]; omega)]
              rfl
      · refine zOk.pure (r := -1000001) h ?_ ?_
        · rw [D_Eggs_order, B_Eggs_order_0, zr_0_2, zbS, c_stands L xs 58 b hc hB, zbI]
          dsimp only
          rw [if_pos h0, if_pos (by decide), zr_0_2, zbS, c_hasBag L xs 58 b hc hB, zbI]
          dsimp only
          rw [if_pos h1, if_neg (by decide), if_neg hwm]
        · rw [D_Model_order, B_Model_order_0, zp_64_0, zbS, m_isThere L xs 58 _ b hm hB, zbI]
          dsimp only
          rw [if_pos h0, if_pos (by decide), m_isBag L xs 57 _ b hm hB, zbI]
          dsimp only
          rw [if_pos h1, if_neg (by decide), if_neg hwm]
    · refine zOk.pure (r := -1000001) h ?_ ?_
      · rw [D_Eggs_order, B_Eggs_order_0, zr_0_2, zbS, c_stands L xs 58 b hc hB, zbI]
        dsimp only
        rw [if_pos h0, if_pos (by decide), zr_0_2, zbS, c_hasBag L xs 58 b hc hB, zbI]
        dsimp only
        rw [if_neg h1, if_pos rfl]
      · rw [D_Model_order, B_Model_order_0, zp_64_0, zbS, m_isThere L xs 58 _ b hm hB, zbI]
        dsimp only
        rw [if_pos h0, if_pos (by decide), m_isBag L xs 57 _ b hm hB, zbI]
        dsimp only
        rw [if_neg h1, if_pos rfl]
  · refine zOk.pure (r := -1000002) h ?_ ?_
    · rw [D_Eggs_order, B_Eggs_order_0, zr_0_2, zbS, c_stands L xs 58 b hc hB, zbI]
      dsimp only
      rw [if_neg h0, if_neg (by decide)]
    · rw [D_Model_order, B_Model_order_0, zp_64_0, zbS, m_isThere L xs 58 _ b hm hB, zbI]
      dsimp only
      rw [if_neg h0, if_neg (by decide)]
end
