/-! ask -/
section
variable {L : Nat} {xs : Nat → Int32} {B n o : Nat} {g : Nat → Nat} {I A I' A' I0 A0 : Nat → Nat → Int32} {b : Value}
theorem Rel.asked (h : Rel B I A) (hI : ∀ o k, zKI o k = true → o ≠ 62 → ¬ (o = 64 ∧ k = 29) → I' o k = I o k) (hA : ∀ q, zKA q = true → q ≠ 63 → q ≠ 78 → A' q = A q) (h60 : A' 60 0 = A 60 0) (h61 : A' 61 0 = A 61 0) (hs : zAs I' A') : Rel B I' A' := by
  obtain ⟨g, h1, h2, h3, h4, h5, h6, h7⟩ := h
  have e1 : ∀ o k, zKI o k = true → o ≠ 62 → (o ≠ 64 ∨ k ≠ 29) → I' o k = I o k := fun o k a b c => hI o k a b (by omega)
  have eI : ∀ o, (o = 15 ∨ o = 30 ∨ o = 37) → I' o = I o := fun o ho => funext (fun k => e1 o k (by rcases ho with rfl | rfl | rfl <;> simp [zKI]) (by omega) (by omega))
  exact ⟨g, h1.c (e1 _ _ rfl (by decide) (by decide)) (e1 _ _ rfl (by decide) (by decide)) (fun q a b => hA q (by simp [zKA]; omega) (by omega) (by omega)) (hA _ rfl (by decide) (by decide)) (hA _ rfl (by decide) (by decide)) (hA _ rfl (by decide) (by decide)), h2.c (e1 _ _ rfl (by decide) (by decide)) (e1 _ _ rfl (by decide) (by decide)) (e1 _ _ rfl (by decide) (by decide)) (e1 _ _ rfl (by decide) (by decide)) (hA _ rfl (by decide) (by decide)) (hA _ rfl (by decide) (by decide)), hs, h4.c h60 h61, h5.c (eI 15 (by omega)) (fun q a b => hA q (by simp [zKA]; omega) (by omega) (by omega)) (hA _ rfl (by decide) (by decide)), h6.c (eI 30 (by omega)) (eI 37 (by omega)) (fun q a b => hA q (by simp [zKA]; omega) (by omega) (by omega)) (hA _ rfl (by decide) (by decide)) (hA _ rfl (by decide) (by decide)), h7.c (e1 _ _ rfl (by decide) (by decide)) (e1 _ _ rfl (by decide) (by decide)) (e1 _ _ rfl (by decide) (by decide)) (fun q a b => hA q (by simp [zKA]; omega) (by omega) (by omega)) (hA _ rfl (by decide) (by decide))⟩
/-- a log of bodies at field k of o, row q -/
def aL (o k q : Nat) (I0 A0 : Nat → Nat → Int32) (T : List Nat) (I A : Nat → Nat → Int32) : Prop := (∀ o' k', ¬ (o' = o ∧ k' = k) → I o' k' = I0 o' k') ∧ (∀ q', q' ≠ q → A q' = A0 q') ∧ I o k = nI T.length ∧ ∀ i, i < T.length → A q i = nI (T.getD i 0)
theorem aL.add {k q : Nat} {T : List Nat} (h : aL o k q I0 A0 T I A) (x : Nat) : aL o k q I0 A0 (T ++ [x]) (zuI I o k (nI (T.length + 1))) (zuA A q T.length (nI x)) := by
  obtain ⟨h1, h2, h3, h4⟩ := h
  refine ⟨fun o' k' hn => by rw [zuI_at, if_neg hn]; exact h1 o' k' hn, fun q' hq => by rw [zuA_o hq]; exact h2 q' hq, by rw [zuI_s, List.length_append]; rfl, fun i hi => ?_⟩
  rw [List.length_append] at hi
  rw [zuA_s]
  by_cases e : i = T.length
  · subst e
    rw [pk_us]
    simp
  · have hi2 : i < T.length := by
      have : i < T.length + 1 := hi
      omega
    rw [pk_un e, h4 i hi2]
    simp only [List.getD_eq_getElem?_getD, List.getElem?_append_left hi2]
theorem c_leave {T : List Nat} (h : aL 62 1 63 I0 A0 T I A) (hT : T.length < 16) (x : Nat) {v : Int32} (hv : v = nI x) (d : Nat) : ∃ I' A', pm_call L xs (d + 1) m_Asks_leave [.ref 62, .int v] (zL I A b) = some (none, zL I' A' b) ∧ aL 62 1 63 I0 A0 (T ++ [x]) I' A' := by
  refine ⟨_, _, ?_, h.add x⟩
  subst hv
  rw [D_Asks_leave, B_Asks_leave_0, zg_62_1, h.2.2.1, zbS, if_neg (by rw [zl16]; exact nI_ge hT (by decide)), zr_62_0, zbS, zbS, z_wr za_63 hT, zbS, zg_62_1, zbS, h.2.2.1, nI_1, zp_62_1, zbS]
theorem m_began {T : List Nat} (h : aL 64 29 78 I0 A0 T I A) (hT : T.length < 16) (x : Nat) {v : Int32} (hv : v = nI x) (d : Nat) : ∃ I' A', pm_call L xs (d + 1) m_Model_began [.ref 64, .int v] (zL I A b) = some (none, zL I' A' b) ∧ aL 64 29 78 I0 A0 (T ++ [x]) I' A' := by
  refine ⟨_, _, ?_, h.add x⟩
  subst hv
  rw [D_Model_began, B_Model_began_0, zg_64_29, h.2.2.1, zbS, if_neg (by rw [zl16]; exact nI_ge hT (by decide)), zr_64_28, zbS, zbS, z_wr za_78 hT, zbS, zg_64_29, zbS, h.2.2.1, nI_1, zp_64_29, zbS]
/-- a body gives r and leaves T' where T was -/
def gv (L : Nat) (xs : Nat → Int32) (b : Value) (I0 A0 : Nat → Nat → Int32) (d : Nat) (i x : Int32) (T T' : List Nat) (r : Int32) : Prop := ∀ I A, aL 62 1 63 I0 A0 T I A → ∃ I' A', pm_call L xs d m_Asks_gives [.ref 62, .int x, .int i] (zL I A b) = some (some (.int r), zL I' A' b) ∧ aL 62 1 63 I0 A0 T' I' A'
variable {d : Nat} {i : Int32} {T T' T2 : List Nat} {r r2 : Int32}
theorem C_gives (i1 i2 : Int32) : pm_call L xs (d + 1) m_Asks_gives [.ref 62, .int i1, .int i2] (zL I A b) = zE L xs d K_Asks_gives 0 [some (.ref 62), some (.int i1), some (.int i2), none] [] (zL I A b) := C_Asks_gives L xs d _ _ _ _
theorem gv10 (hT : T.length < 16) (hi : i < 16) : gv L xs b I0 A0 (d + 2) i 10 T (T ++ [10]) (I0 62 3) := by
  intro I A h
  obtain ⟨I1, A1, x1, x2⟩ := c_leave (L := L) (xs := xs) (b := b) h hT 10 (v := 10) zl10 d
  refine ⟨I1, A1, ?_, x2⟩
  rw [C_gives, B_Asks_gives_0, if_pos hi, x1, zbV, if_pos rfl, zg_62_3, zbS, x2.1 62 3 (by decide)]
theorem gv20 (hT : T.length < 16) (hi : i < 16) : gv L xs b I0 A0 (d + 2) i 20 T (T ++ [20]) (I0 62 2) := by
  intro I A h
  obtain ⟨I1, A1, x1, x2⟩ := c_leave (L := L) (xs := xs) (b := b) h hT 20 (v := 20) zl20 d
  refine ⟨I1, A1, ?_, x2⟩
  rw [C_gives, B_Asks_gives_0, if_pos hi, x1, zbV, if_neg (by decide), if_neg (by decide), if_neg (by decide), if_neg (by decide), if_neg (by decide), if_neg (by decide), if_neg (by decide), if_neg (by decide), if_neg (by decide), if_neg (by decide), if_pos rfl, zg_62_2, zbS, x2.1 62 2 (by decide)]
theorem gv11 (hT : T.length < 16) (hi : i < 16) (h1 : gv L xs b I0 A0 (d + 1) (i + 1) 10 (T ++ [11]) T' r) (h2 : gv L xs b I0 A0 (d + 1) (i + 1) (I0 62 6) T' T2 r2) : gv L xs b I0 A0 (d + 2) i 11 T T2 (r + r2) := by
  intro I A h
  obtain ⟨I1, A1, x1, x2⟩ := c_leave (L := L) (xs := xs) (b := b) h hT 11 (v := 11) (by decide) d
  obtain ⟨I2, A2, y1, y2⟩ := h1 I1 A1 x2
  obtain ⟨I3, A3, z1, z2⟩ := h2 I2 A2 y2
  refine ⟨I3, A3, ?_, z2⟩
  rw [C_gives, B_Asks_gives_0, if_pos hi, x1, zbV, if_neg (by decide), if_pos rfl, y1, zbI, zg_62_6, zbS, y2.1 62 6 (by decide), z1, zbI]
theorem gv12 (hT : T.length < 16) (hi : i < 16) (h1 : gv L xs b I0 A0 (d + 1) (i + 1) 11 (T ++ [12]) T' r) : gv L xs b I0 A0 (d + 2) i 12 T T' (-r) := by
  intro I A h
  obtain ⟨I1, A1, x1, x2⟩ := c_leave (L := L) (xs := xs) (b := b) h hT 12 (v := 12) (by decide) d
  obtain ⟨I2, A2, y1, y2⟩ := h1 I1 A1 x2
  refine ⟨I2, A2, ?_, y2⟩
  rw [C_gives, B_Asks_gives_0, if_pos hi, x1, zbV, if_neg (by decide), if_neg (by decide), if_pos rfl, y1, zbI]
theorem gv13 (hT : T.length < 16) (hi : i < 16) (h1 : gv L xs b I0 A0 (d + 1) (i + 1) 10 (T ++ [13]) T' r) : gv L xs b I0 A0 (d + 2) i 13 T T' (r - 100) := by
  intro I A h
  obtain ⟨I1, A1, x1, x2⟩ := c_leave (L := L) (xs := xs) (b := b) h hT 13 (v := 13) (by decide) d
  obtain ⟨I2, A2, y1, y2⟩ := h1 I1 A1 x2
  refine ⟨I2, A2, ?_, y2⟩
  rw [C_gives, B_Asks_gives_0, if_pos hi, x1, zbV, if_neg (by decide), if_neg (by decide), if_neg (by decide), if_pos rfl, y1, zbI]
theorem gv14 (hT : T.length < 16) (hi : i < 16) (h1 : gv L xs b I0 A0 (d + 1) (i + 1) 13 (T ++ [14]) T' r) : gv L xs b I0 A0 (d + 2) i 14 T T' (2 * r) := by
  intro I A h
  obtain ⟨I1, A1, x1, x2⟩ := c_leave (L := L) (xs := xs) (b := b) h hT 14 (v := 14) (by decide) d
  obtain ⟨I2, A2, y1, y2⟩ := h1 I1 A1 x2
  refine ⟨I2, A2, ?_, y2⟩
  rw [C_gives, B_Asks_gives_0, if_pos hi, x1, zbV, if_neg (by decide), if_neg (by decide), if_neg (by decide), if_neg (by decide), if_pos rfl, y1, zbI]
theorem gv21 (hT : T.length < 16) (hi : i < 16) (h1 : gv L xs b I0 A0 (d + 1) (i + 1) 20 (T ++ [21]) T' r) : gv L xs b I0 A0 (d + 2) i 21 T T' (r + I0 62 4) := by
  intro I A h
  obtain ⟨I1, A1, x1, x2⟩ := c_leave (L := L) (xs := xs) (b := b) h hT 21 (v := 21) (by decide) d
  obtain ⟨I2, A2, y1, y2⟩ := h1 I1 A1 x2
  refine ⟨I2, A2, ?_, y2⟩
  rw [C_gives, B_Asks_gives_0, if_pos hi, x1, zbV, if_neg (by decide), if_neg (by decide), if_neg (by decide), if_neg (by decide), if_neg (by decide), if_neg (by decide), if_neg (by decide), if_neg (by decide), if_neg (by decide), if_neg (by decide), if_neg (by decide), if_pos rfl, y1, zbI, zg_62_4, zbS, y2.1 62 4 (by decide)]
theorem gv22 (hT : T.length < 16) (hi : i < 16) (h1 : gv L xs b I0 A0 (d + 1) (i + 1) 21 (T ++ [22]) T' r) : gv L xs b I0 A0 (d + 2) i 22 T T' (r - 1000) := by
  intro I A h
  obtain ⟨I1, A1, x1, x2⟩ := c_leave (L := L) (xs := xs) (b := b) h hT 22 (v := 22) (by decide) d
  obtain ⟨I2, A2, y1, y2⟩ := h1 I1 A1 x2
  refine ⟨I2, A2, ?_, y2⟩
  rw [C_gives, B_Asks_gives_0, if_pos hi, x1, zbV, if_neg (by decide), if_neg (by decide), if_neg (by decide), if_neg (by decide), if_neg (by decide), if_neg (by decide), if_neg (by decide), if_neg (by decide), if_neg (by decide), if_neg (by decide), if_neg (by decide), if_neg (by decide), if_pos rfl, y1, zbI]
theorem gv23 (hT : T.length < 16) (hi : i < 16) (h1 : gv L xs b I0 A0 (d + 1) (i + 1) 20 (T ++ [23]) T' r) (h2 : gv L xs b I0 A0 (d + 1) (i + 1) (I0 62 5) T' T2 r2) : gv L xs b I0 A0 (d + 2) i 23 T T2 (r - r2) := by
  intro I A h
  obtain ⟨I1, A1, x1, x2⟩ := c_leave (L := L) (xs := xs) (b := b) h hT 23 (v := 23) (by decide) d
  obtain ⟨I2, A2, y1, y2⟩ := h1 I1 A1 x2
  obtain ⟨I3, A3, z1, z2⟩ := h2 I2 A2 y2
  refine ⟨I3, A3, ?_, z2⟩
  rw [C_gives, B_Asks_gives_0, if_pos hi, x1, zbV, if_neg (by decide), if_neg (by decide), if_neg (by decide), if_neg (by decide), if_neg (by decide), if_neg (by decide), if_neg (by decide), if_neg (by decide), if_neg (by decide), if_neg (by decide), if_neg (by decide), if_neg (by decide), if_neg (by decide), if_pos rfl, y1, zbI, zg_62_5, zbS, y2.1 62 5 (by decide), z1, zbI]
theorem gv24 (hT : T.length < 16) (hi : i < 16) (h1 : gv L xs b I0 A0 (d + 1) (i + 1) 21 (T ++ [24]) T' r) : gv L xs b I0 A0 (d + 2) i 24 T T' (2 * r) := by
  intro I A h
  obtain ⟨I1, A1, x1, x2⟩ := c_leave (L := L) (xs := xs) (b := b) h hT 24 (v := 24) (by decide) d
  obtain ⟨I2, A2, y1, y2⟩ := h1 I1 A1 x2
  refine ⟨I2, A2, ?_, y2⟩
  rw [C_gives, B_Asks_gives_0, if_pos hi, x1, zbV, if_neg (by decide), if_neg (by decide), if_neg (by decide), if_neg (by decide), if_neg (by decide), if_neg (by decide), if_neg (by decide), if_neg (by decide), if_neg (by decide), if_neg (by decide), if_neg (by decide), if_neg (by decide), if_neg (by decide), if_neg (by decide), if_pos rfl, y1, zbI]
end
