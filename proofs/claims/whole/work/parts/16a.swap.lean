/-! swap -/
section
variable {B : Nat} {g : Nat → Nat} {a c : Nat}
/-- a and c are the first two on the BELT -/
def gTwo (g : Nat → Nat) (a c : Nat) : Prop := a < g 3 ∧ c < g 3 ∧ gp g a = 0 ∧ gp g c = 0 ∧ go g a < go g c ∧ ∀ u, u < g 3 → u ≠ a → u ≠ c → gp g u = 0 → go g c < go g u
def gsw (g : Nat → Nat) (a c : Nat) : Nat → Nat := gu (gu g (6 + 7 * a + 4) (go g c)) (6 + 7 * c + 4) (go g a)
def gsec (g : Nat → Nat) (a : Nat) : Nat → Nat := gu g (6 + 7 * a + 3) 1
theorem gTwo.ne (h : gTwo g a c) : a ≠ c := fun e => by subst e; have := h.2.2.2.2.1; omega
theorem gsw_w {u w : Nat} (hw : w < 7) (h4 : w ≠ 4) : gsw g a c (6 + 7 * u + w) = g (6 + 7 * u + w) := by
  unfold gsw
  rw [gu_n (by omega), gu_n (by omega)]
theorem gsw_h {j : Nat} (hj : j < 6) : gsw g a c j = g j := by
  unfold gsw
  rw [gu_n (by omega), gu_n (by omega)]
theorem gsw_oc : go (gsw g a c) c = go g a := gu_s
theorem gsw_oa (h : a ≠ c) : go (gsw g a c) a = go g c := by
  show gsw g a c (6 + 7 * a + 4) = _
  unfold gsw
  rw [gu_n (by omega), gu_s]
theorem gsw_oo {u : Nat} (h1 : u ≠ a) (h2 : u ≠ c) : go (gsw g a c) u = go g u := by
  show gsw g a c (6 + 7 * u + 4) = _
  unfold gsw
  rw [gu_n (by omega), gu_n (by omega)]
theorem gsw_p (u : Nat) : gp (gsw g a c) u = gp g u := gsw_w (by decide) (by decide)
theorem gsw_n : gsw g a c 3 = g 3 := gsw_h (by decide)
theorem gsw_count (p : Nat) : gcount (gsw g a c) p = gcount g p := by
  unfold gcount
  rw [gsw_n]
  exact zC_congr _ (fun u _ => by rw [gsw_p])
theorem gTwo.count (h : gTwo g a c) : gcount g 0 = zC (fun u => (decide (gp g u = 0) && decide (u ≠ a)) && decide (u ≠ c)) (g 3) + 2 := by
  have hne := h.ne
  obtain ⟨ha, hc, pa, pc, ho, hu⟩ := h
  unfold gcount
  rw [zC_rm (t := a) _ ha (by simp [pa]), zC_rm (t := c) _ hc (by simp [pc, Ne.symm hne])]
theorem gTwo.ha (h : gTwo g a c) : gh g a + 1 = gcount g 0 := by
  rw [h.count]
  have hne := h.ne
  obtain ⟨ha, hc, pa, pc, ho, hu⟩ := h
  unfold gh
  rw [if_pos pa, zC_rm (t := c) _ hc (by simp [pc, ho])]
  rw [zC_congr (Q := fun u => (decide (gp g u = 0) && decide (u ≠ a)) && decide (u ≠ c)) _ (fun u hu' => ?_)]
  by_cases e1 : u = a
  · subst e1; simp
  · by_cases e2 : u = c
    · subst e2; simp
    · by_cases e3 : gp g u = 0
      · have := hu u hu' e1 e2 e3
        simp [e1, e2, e3]; omega
      · simp [e3]
theorem gTwo.hc (h : gTwo g a c) : gh g c + 2 = gcount g 0 := by
  rw [h.count]
  have hne := h.ne
  obtain ⟨ha, hc, pa, pc, ho, hu⟩ := h
  unfold gh
  rw [if_pos pc]
  rw [zC_congr (Q := fun u => (decide (gp g u = 0) && decide (u ≠ a)) && decide (u ≠ c)) _ (fun u hu' => ?_)]
  by_cases e1 : u = a
  · subst e1; simp; omega
  · by_cases e2 : u = c
    · subst e2; simp
    · by_cases e3 : gp g u = 0
      · have := hu u hu' e1 e2 e3
        simp [e1, e2, e3]; omega
      · simp [e3]
theorem gTwo.swap (h : gTwo g a c) : gTwo (gsw g a c) c a := by
  have hne := h.ne
  obtain ⟨ha, hc, pa, pc, ho, hu⟩ := h
  refine ⟨by rw [gsw_n]; exact hc, by rw [gsw_n]; exact ha, by rw [gsw_p]; exact pc, by rw [gsw_p]; exact pa, by rw [gsw_oc, gsw_oa hne]; exact ho, fun u h1 h2 h3 h4 => ?_⟩
  rw [gsw_n] at h1
  rw [gsw_p] at h4
  rw [gsw_oa hne, gsw_oo h3 h2]
  exact hu u h1 h3 h2 h4
theorem gTwo.other (h : gTwo g a c) {u : Nat} (hu : u < g 3) (h1 : u ≠ a) (h2 : u ≠ c) : gh (gsw g a c) u = gh g u := by
  have hne := h.ne
  obtain ⟨ha, hc, pa, pc, ho, hx⟩ := h
  unfold gh
  rw [gsw_p, gsw_n, gsw_oo h1 h2]
  by_cases e : gp g u = 0
  · have := hx u hu h1 h2 e
    rw [if_pos e, if_pos e]
    apply zC_congr
    intro v hv
    rw [gsw_p]
    by_cases e1 : v = a
    · subst e1; rw [gsw_oa hne]; simp [pa]; omega
    · by_cases e2 : v = c
      · subst e2; rw [gsw_oc]; simp [pc]; omega
      · rw [gsw_oo e1 e2]
  · rw [if_neg e, if_neg e]
    apply zC_congr
    intro v hv
    rw [gsw_p]
    by_cases e1 : v = a
    · subst e1; simp [pa, Ne.symm e]
    · by_cases e2 : v = c
      · subst e2; simp [pc, Ne.symm e]
      · rw [gsw_oo e1 e2]
theorem gsw_I (h : gI B g) (h2 : gTwo g a c) : gI B (gsw g a c) := by
  have hne := h2.ne
  obtain ⟨ha, hc, pa, pc, ho, hx⟩ := h2
  obtain ⟨hB, hD, hU, hO, h5, hk, h0, h4⟩ := h
  have e3 : gsw g a c 3 = g 3 := gsw_n
  have ek : ∀ u, gk (gsw g a c) u = gk g u := fun u => gsw_w (by decide) (by decide)
  have ew : ∀ u, gw (gsw g a c) u = gw g u := fun u => gsw_w (by decide) (by decide)
  have es : ∀ u, gs (gsw g a c) u = gs g u := fun u => gsw_w (by decide) (by decide)
  have ec : ∀ u, gc (gsw g a c) u = gc g u := fun u => gsw_w (by decide) (by decide)
  have hb1 := hB.2.2.1 (6 + 7 * a + 4)
  have hb2 := hB.2.2.1 (6 + 7 * c + 4)
  have eo : ∀ u, u < g 3 → ∃ v, v < g 3 ∧ go (gsw g a c) u = go g v ∧ (u = a → v = c) ∧ (u = c → v = a) ∧ (u ≠ a → u ≠ c → v = u) := by
    intro u hu
    by_cases e1 : u = a
    · subst e1; exact ⟨c, hc, gsw_oa hne, fun _ => rfl, fun e => absurd e hne, fun e => absurd rfl e⟩
    · by_cases e2 : u = c
      · subst e2; exact ⟨a, ha, gsw_oc, fun e => absurd e e1, fun _ => rfl, fun _ e => absurd rfl e⟩
      · exact ⟨u, hu, gsw_oo e1 e2, fun e => absurd e e1, fun e => absurd e e2, fun _ _ => rfl⟩
  refine ⟨gu_B (gu_B hB (by omega) hb2 (fun t _ e => by omega)) (by omega) hb1 (fun t _ e => by omega), fun u v hu hv e => ?_, fun u hu => ?_, fun u hu hl => ?_, by rw [gsw_h (by decide)]; exact h5, fun u hu => by rw [ek, ew, gsw_p, ec, gsw_h (by decide)]; exact hk u (by rw [e3] at hu; exact hu), by rw [e3, gsw_h (by decide)]; exact h0, by rw [gsw_h (by decide)]; exact h4⟩
  · rw [e3] at hu hv
    obtain ⟨u', u1, u2, u3, u4, u5⟩ := eo u hu
    obtain ⟨v', v1, v2, v3, v4, v5⟩ := eo v hv
    rw [u2, v2] at e
    have := hD u' v' u1 v1 e
    omega
  · rw [e3] at hu
    obtain ⟨u', u1, u2, -⟩ := eo u hu
    rw [u2, gsw_h (by decide)]
    exact hU u' u1
  · rw [e3] at hu
    rw [ec]
    refine hO u hu ?_
    have b1 : gbears (gsw g a c) u = gbears g u := by unfold gbears; rw [ek, es]
    have l1 : gload (gsw g a c) u = gload g u := by
      unfold gload
      rw [e3]
      apply zS_congr
      intro v _
      have pr : gpress (gsw g a c) v = gpress g v := by unfold gpress; rw [ek, ew]
      rw [pr, gsw_p]
      by_cases q3 : 3 ≤ gp g u
      · have ab : gab (gsw g a c) v u = gab g v u := by
          unfold gab
          rw [gsw_p, gsw_p]
          have hua : u ≠ a := fun e => by subst e; omega
          have huc : u ≠ c := fun e => by subst e; omega
          rw [gsw_oo hua huc]
          by_cases e1 : v = a
          · subst e1; simp [pa, show 0 ≠ gp g u by omega]
          · by_cases e2 : v = c
            · subst e2; simp [pc, show 0 ≠ gp g u by omega]
            · rw [gsw_oo e1 e2]
        rw [ab]
      · simp [q3]
    rw [b1, l1] at hl
    exact hl
theorem gBack_swap (h : gTwo g a c) (f : Int32) : gBack g (gsw g a c) 2 (-1000000) f (nI (gbroken g)) := by
  refine ⟨rfl, ⟨gsw_h (by decide), gsw_h (by decide), gsw_h (by decide), gsw_n⟩, fun u _ => ⟨(gsw_w (by decide) (by decide)).symm, (gsw_w (by decide) (by decide)).symm, (gsw_w (by decide) (by decide)).symm⟩, Or.inl ⟨rfl, rfl, gsw_h (by decide), a, c, h.1, h.2.1, h.ne, h.2.2.1, h.2.2.2.1, fun u _ => ⟨(gsw_p u).symm, (gsw_w (by decide) (by decide)).symm⟩, h.ha, h.hc, ?_, ?_, fun u hu h1 h2 _ => (h.other hu h1 h2).symm⟩⟩
  · have := h.swap.ha
    rw [gsw_count] at this
    exact this
  · have := h.swap.hc
    rw [gsw_count] at this
    exact this
theorem gTwo.high (hD : gD g) (h : gTwo g a c) : ghigh g 0 = some a := by
  cases hf : ghigh g 0 with
  | none => exact absurd h.2.2.1 ((ghigh_spec hD).1 hf a h.1)
  | some t =>
    obtain ⟨k1, k2, k3, k4⟩ := (ghigh_spec hD).2 t hf
    refine congrArg some (Classical.byContradiction (fun hne => ?_))
    have := k4 a h.1 h.2.2.1 (fun e => hne e.symm)
    have := h.ha
    omega
theorem gsec_p {u : Nat} : (gp (gsec g a) u = 0) ↔ (u ≠ a ∧ gp g u = 0) := by
  by_cases e : u = a
  · subst e
    rw [show gp (gsec g u) u = 1 from gu_s]
    simp
  · rw [show gp (gsec g a) u = gp g u from gu_n (by omega)]
    simp [e]
theorem gsec_o {u : Nat} : go (gsec g a) u = go g u := gu_n (by omega)
theorem gTwo_of (hD : gD g) (hf : gfirst g 0 (g 3) = some a) (hs : gfirst (gsec g a) 0 (g 3) = some c) : gTwo g a c := by
  obtain ⟨a1, a2, a3⟩ := (gfirst_spec _).2 a hf
  obtain ⟨c1, c2, c3⟩ := (gfirst_spec _).2 c hs
  rw [gsec_p] at c2
  refine ⟨a1, c1, a2, c2.2, ?_, fun u hu h1 h2 hp => ?_⟩
  · have := a3 c c1 c2.2
    have : go g c ≠ go g a := fun e => c2.1 (hD c a c1 a1 e)
    omega
  · have := c3 u hu (gsec_p.mpr ⟨h1, hp⟩)
    rw [gsec_o, gsec_o] at this
    have : go g u ≠ go g c := fun e => h2 (hD u c hu c1 e)
    omega
theorem gTwo_ex (hD : gD g) (h2 : 2 ≤ gcount g 0) : ∃ a c, gfirst g 0 (g 3) = some a ∧ gfirst (gsec g a) 0 (g 3) = some c ∧ gTwo g a c := by
  cases hf : gfirst g 0 (g 3) with
  | none =>
    have := (gfirst_spec _).1 hf
    have : gcount g 0 = 0 := zC_0 _ (fun k hk => by simp [this k hk])
    omega
  | some a =>
    cases hs : gfirst (gsec g a) 0 (g 3) with
    | none =>
      have h1 := (gfirst_spec _).1 hs
      obtain ⟨a1, a2, -⟩ := (gfirst_spec _).2 a hf
      unfold gcount at h2
      rw [zC_rm (t := a) _ a1 (by simp [a2]), zC_0 _ (fun k hk => ?_)] at h2
      · omega
      · have h3 := h1 k hk
        rw [Ne, gsec_p] at h3
        by_cases e : k = a
        · simp [e]
        · have : gp g k ≠ 0 := fun e2 => h3 ⟨e, e2⟩
          simp [this]
    | some c => exact ⟨a, c, rfl, hs, gTwo_of hD hf hs⟩
end
