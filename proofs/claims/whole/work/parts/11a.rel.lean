/-! what holds between the two sides after every call -/
/-- a row that a run of calls can come to -/
def gI (B : Nat) (g : Nat → Nat) : Prop := gB g ∧ gD g ∧ gU g ∧ gO g ∧ g 5 ≤ B ∧ (∀ t, t < g 3 → (1 ≤ gk g t ∧ gk g t ≤ 5) ∧ (1 ≤ gw g t ∧ gw g t ≤ 20) ∧ gp g t < 3 + g 0 ∧ gc g t ≤ 1) ∧ (g 0 = 0 → g 3 = 0) ∧ g 4 ≤ 999
theorem gI.mono {B B' : Nat} {g : Nat → Nat} (h : gI B g) (hb : B ≤ B') : gI B' g := by
  obtain ⟨h1, h2, h3, h4, h5, h6, h7, h8⟩ := h
  exact ⟨h1, h2, h3, h4, by omega, h6, h7, h8⟩
def gMoved (g g' : Nat → Nat) (t : Nat) : Prop := t < g 3 ∧ gp g' t ≠ gp g t ∧ (∀ u, u < g 3 → u ≠ t → gp g u = gp g' u ∧ (gp g u ≠ 2 → gh g u = gh g' u) ∧ (gp g u ≠ 0 → gi g u = gi g' u)) ∧ (gp g t ≠ 2 → gh g t = gcount g' (gp g t)) ∧ (gp g t ≠ 0 → gi g t = gi g' t ∧ gp g' t ≠ 0)
def gSwapped (g g' : Nat → Nat) : Prop := ∃ a c, a < g 3 ∧ c < g 3 ∧ a ≠ c ∧ gp g a = 0 ∧ gp g c = 0 ∧ (∀ u, u < g 3 → gp g u = gp g' u ∧ gi g u = gi g' u) ∧ gh g a + 1 = gcount g 0 ∧ gh g c + 2 = gcount g 0 ∧ gh g' c + 1 = gcount g 0 ∧ gh g' a + 2 = gcount g 0 ∧ ∀ u, u < g 3 → u ≠ a → u ≠ c → gp g u ≠ 2 → gh g u = gh g' u
def gSame (g g' : Nat → Nat) : Prop := ∀ u, u < g 3 → gp g u = gp g' u ∧ (gp g u ≠ 2 → gh g u = gh g' u) ∧ (gp g u ≠ 0 → gi g u = gi g' u)
/-- an ACT kept as s m f c takes a SHOP of g' back to one of g -/
def gBack (g g' : Nat → Nat) (s m f c : Int32) : Prop := c = nI (gbroken g) ∧ (g' 0 = g 0 ∧ g' 1 = g 1 ∧ g' 2 = g 2 ∧ g' 3 = g 3) ∧ (∀ u, u < g 3 → gk g u = gk g' u ∧ gw g u = gw g' u ∧ gs g u = gs g' u) ∧ ((s = 2 ∧ m = -1000000 ∧ g' 4 = g 4 ∧ gSwapped g g') ∨ (s = 1 ∧ m = -1000000 ∧ g' 4 = g 4 + 1 ∧ gSame g g') ∨ (∃ t, m = nI t ∧ f = nI (gp g t) ∧ gMoved g g' t ∧ ((s = 1 ∧ g' 4 = g 4 + 1) ∨ (s = 0 ∧ g' 4 = g 4))))
/-- one ROW -/
def zRw1 (A : Nat → Nat → Int32) (r : Nat) : Prop := ((A 12 r = -1 ∧ A 65 r = -1) ∨ ∃ n l : Nat, n ≤ 40 ∧ l ≤ 2 ∧ A 12 r = nI n ∧ A 11 r = nI l ∧ A 65 r = nI l ∧ A 66 r = nI n) ∧ ∀ i, i < 40 → A (3 + r) i = A 67 (40 * r + i)
def zRw (I A : Nat → Nat → Int32) : Prop := I 0 10 = I 64 1 ∧ ∀ r, r < 8 → zRw1 A r
def zTp (I A : Nat → Nat → Int32) : Prop := I 0 9 = I 64 18 ∧ ∃ n : Nat, n ≤ 120 ∧ I 13 1 = nI n ∧ I 64 11 = nI n ∧ ∀ i, i < n → ∃ c : Nat, c < 256 ∧ A 14 i = nI c ∧ A 72 i = nI c
def zAs (I A : Nat → Nat → Int32) : Prop := ∃ n : Nat, n ≤ 16 ∧ I 62 1 = nI n ∧ I 64 29 = nI n ∧ ∀ i, i < n → A 63 i = A 78 i
def zBl (A : Nat → Nat → Int32) : Prop := A 60 0 = 0 ∧ A 61 0 = 0
def zSp (B : Nat) (g : Nat → Nat) (I A : Nat → Nat → Int32) : Prop := cR I A 15 g ∧ mR A 68 g ∧ gI B g
def zIm (B : Nat) (I A : Nat → Nat → Int32) : Prop := ∀ k, k < 2 → (A 76 k = 0 ∧ I (30 + 7 * k) 0 = 0) ∨ (A 76 k = 1 ∧ ∃ g, cR I A (30 + 7 * k) g ∧ (∀ j, j < 55 → A 77 (55 * k + j) = nI (g j)) ∧ gI B g ∧ 0 < g 0)
def zHs (B : Nat) (g : Nat → Nat) (I A : Nat → Nat → Int32) : Prop := ∃ (n o : Nat) (hs : Nat → Nat → Nat), n ≤ 24 ∧ o < 24 ∧ I 44 4 = nI o ∧ I 44 5 = nI n ∧ I 64 9 = nI n ∧ hs n = g ∧ ∀ k, k < n → gI B (hs k) ∧ 0 < hs k 0 ∧ (∀ j, j < 55 → A 71 (55 * k + j) = nI (hs k j)) ∧ gBack (hs k) (hs (k + 1)) (A 45 ((o + k) % 24)) (A 46 ((o + k) % 24)) (A 47 ((o + k) % 24)) (A 48 ((o + k) % 24))
def Rel (B : Nat) (I A : Nat → Nat → Int32) : Prop := ∃ g, zRw I A ∧ zTp I A ∧ zAs I A ∧ zBl A ∧ zSp B g I A ∧ zIm B I A ∧ zHs B g I A
section
variable {I A I' A' : Nat → Nat → Int32} {B B' : Nat} {g : Nat → Nat}
theorem zRw1.c {r : Nat} (h : zRw1 A r) (hr : r < 8) (h3 : ∀ q, 3 ≤ q → q ≤ 12 → A' q = A q) (h5 : A' 65 = A 65) (h6 : A' 66 = A 66) (h7 : A' 67 = A 67) : zRw1 A' r := by
  unfold zRw1 at h ⊢
  rw [h3 12 (by decide) (by decide), h3 11 (by decide) (by decide), h5, h6, h7, h3 (3 + r) (by omega) (by omega)]
  exact h
theorem zRw.c (h : zRw I A) (h1 : I' 0 10 = I 0 10) (h2 : I' 64 1 = I 64 1) (h3 : ∀ q, 3 ≤ q → q ≤ 12 → A' q = A q) (h5 : A' 65 = A 65) (h6 : A' 66 = A 66) (h7 : A' 67 = A 67) : zRw I' A' :=
  ⟨by rw [h1, h2]; exact h.1, fun r hr => (h.2 r hr).c hr h3 h5 h6 h7⟩
theorem zTp.c (h : zTp I A) (h1 : I' 0 9 = I 0 9) (h2 : I' 64 18 = I 64 18) (h3 : I' 13 1 = I 13 1) (h4 : I' 64 11 = I 64 11) (h5 : A' 14 = A 14) (h6 : A' 72 = A 72) : zTp I' A' := by
  unfold zTp at h ⊢
  rw [h1, h2, h3, h4, h5, h6]
  exact h
theorem zAs.c (h : zAs I A) (h1 : I' 62 1 = I 62 1) (h2 : I' 64 29 = I 64 29) (h3 : A' 63 = A 63) (h4 : A' 78 = A 78) : zAs I' A' := by
  unfold zAs at h ⊢
  rw [h1, h2, h3, h4]
  exact h
theorem zBl.c (h : zBl A) (h1 : A' 60 0 = A 60 0) (h2 : A' 61 0 = A 61 0) : zBl A' := by
  unfold zBl at h ⊢
  rw [h1, h2]
  exact h
theorem cR.c {o : Nat} (h : cR I A o g) (h1 : I' o = I o) (h2 : ∀ q, o + 1 ≤ q → q ≤ o + 6 → A' q = A q) : cR I' A' o g := by
  unfold cR at h ⊢
  rw [h1, h2 (o + 1) (by omega) (by omega), h2 (o + 2) (by omega) (by omega), h2 (o + 3) (by omega) (by omega), h2 (o + 4) (by omega) (by omega), h2 (o + 5) (by omega) (by omega), h2 (o + 6) (by omega) (by omega)]
  exact h
theorem mR.c {q : Nat} (h : mR A q g) (h1 : A' q = A q) : mR A' q g := by
  unfold mR at h ⊢
  rw [h1]
  exact h
theorem zSp.c (h : zSp B g I A) (h1 : I' 15 = I 15) (h2 : ∀ q, 16 ≤ q → q ≤ 21 → A' q = A q) (h3 : A' 68 = A 68) : zSp B g I' A' := ⟨h.1.c h1 h2, h.2.1.c h3, h.2.2⟩
theorem zIm.c (h : zIm B I A) (h1 : I' 30 = I 30) (h2 : I' 37 = I 37) (h3 : ∀ q, 31 ≤ q → q ≤ 43 → A' q = A q) (h4 : A' 76 = A 76) (h5 : A' 77 = A 77) : zIm B I' A' := by
  intro k hk
  have e1 : I' (30 + 7 * k) = I (30 + 7 * k) := by
    rcases (show k = 0 ∨ k = 1 by omega) with rfl | rfl
    · exact h1
    · exact h2
  rw [h4, h5, e1]
  rcases h k hk with ⟨a, b⟩ | ⟨a, g, h6, h7, h8, h9⟩
  · exact Or.inl ⟨a, b⟩
  · exact Or.inr ⟨a, g, h6.c e1 (fun q hq1 hq2 => h3 q (by omega) (by omega)), h7, h8, h9⟩
theorem zHs.c (h : zHs B g I A) (h1 : I' 44 4 = I 44 4) (h2 : I' 44 5 = I 44 5) (h3 : I' 64 9 = I 64 9) (h4 : ∀ q, 45 ≤ q → q ≤ 48 → A' q = A q) (h5 : A' 71 = A 71) : zHs B g I' A' := by
  unfold zHs at h ⊢
  rw [h1, h2, h3, h4 45 (by decide) (by decide), h4 46 (by decide) (by decide), h4 47 (by decide) (by decide), h4 48 (by decide) (by decide), h5]
  exact h
theorem Rel.mono (h : Rel B I A) (hb : B ≤ B') : Rel B' I A := by
  obtain ⟨g, h1, h2, h3, h4, h5, h6, h7⟩ := h
  refine ⟨g, h1, h2, h3, h4, ⟨h5.1, h5.2.1, h5.2.2.mono hb⟩, fun k hk => ?_, ?_⟩
  · rcases h6 k hk with a | ⟨a, g2, b1, b2, b3, b4⟩
    · exact Or.inl a
    · exact Or.inr ⟨a, g2, b1, b2, b3.mono hb, b4⟩
  · obtain ⟨n, o, hs, k1, k2, k3, k4, k5, k6, k7⟩ := h7
    exact ⟨n, o, hs, k1, k2, k3, k4, k5, k6, fun k hk => ⟨(k7 k hk).1.mono hb, (k7 k hk).2⟩⟩
/-- what the relation looks at -/
def zKI (o k : Nat) : Bool := (o == 0 && (k == 9 || k == 10)) || (o == 13 && k == 1) || o == 15 || o == 30 || o == 37 || (o == 44 && (k == 4 || k == 5)) || (o == 62 && k == 1) || (o == 64 && (k == 1 || k == 9 || k == 11 || k == 18 || k == 29))
def zKA (q : Nat) : Bool := decide (q ≤ 21) || (decide (30 ≤ q) && decide (q ≤ 48)) || q == 63 || (decide (65 ≤ q) && decide (q ≤ 68)) || q == 71 || q == 72 || (decide (76 ≤ q) && decide (q ≤ 78))
def zSame (I A I' A' : Nat → Nat → Int32) : Prop := (∀ o k, zKI o k = true → I' o k = I o k) ∧ (∀ q, zKA q = true → A' q = A q) ∧ A' 60 0 = A 60 0 ∧ A' 61 0 = A 61 0
theorem zSame.refl : zSame I A I A := ⟨fun _ _ _ => rfl, fun _ _ => rfl, rfl, rfl⟩
theorem zSame.trans {I2 A2 : Nat → Nat → Int32} (h : zSame I A I' A') (k : zSame I' A' I2 A2) : zSame I A I2 A2 := ⟨fun o j hj => (k.1 o j hj).trans (h.1 o j hj), fun q hq => (k.2.1 q hq).trans (h.2.1 q hq), k.2.2.1.trans h.2.2.1, k.2.2.2.trans h.2.2.2⟩
theorem zSame.fI (o k : Nat) (x : Int32) (hk : zKI o k = false) : zSame I A (zuI I o k x) A := by
  refine ⟨fun o' k' h => ?_, fun _ _ => rfl, rfl, rfl⟩
  by_cases ho : o' = o
  · subst ho
    by_cases hk2 : k' = k
    · subst hk2; rw [hk] at h; cases h
    · exact zuI_n hk2
  · exact zuI_o ho
theorem zSame.fA (q j : Nat) (x : Int32) (hq : zKA q = false) (h6 : q ≠ 60) (h7 : q ≠ 61) : zSame I A I (zuA A q j x) := by
  refine ⟨fun _ _ _ => rfl, fun q' h => ?_, by rw [zuA_o (Ne.symm h6)], by rw [zuA_o (Ne.symm h7)]⟩
  refine zuA_o (fun e => ?_)
  subst e
  rw [hq] at h
  cases h
theorem zSame.f1 {q : Nat} (h : ∀ q', q' ≠ q → A' q' = A q') (hq : zKA q = false) (h6 : q ≠ 60) (h7 : q ≠ 61) : zSame I A I A' :=
  ⟨fun _ _ _ => rfl, fun q' h2 => h q' (fun e => by subst e; rw [hq] at h2; cases h2), by rw [h 60 (Ne.symm h6)], by rw [h 61 (Ne.symm h7)]⟩
theorem Rel.same (h : Rel B I A) (s : zSame I A I' A') : Rel B I' A' := by
  obtain ⟨g, h1, h2, h3, h4, h5, h6, h7⟩ := h
  obtain ⟨sI, sA, s60, s61⟩ := s
  have eI : ∀ o, zKI o 0 = true → (∀ k, zKI o k = true) → I' o = I o := fun o _ hk => funext (fun k => sI o k (hk k))
  have e15 : I' 15 = I 15 := eI 15 rfl (fun k => by simp [zKI])
  have e30 : I' 30 = I 30 := eI 30 rfl (fun k => by simp [zKI])
  have e37 : I' 37 = I 37 := eI 37 rfl (fun k => by simp [zKI])
  refine ⟨g, h1.c (sI _ _ rfl) (sI _ _ rfl) (fun q a b => sA q (by simp [zKA]; omega)) (sA _ rfl) (sA _ rfl) (sA _ rfl), h2.c (sI _ _ rfl) (sI _ _ rfl) (sI _ _ rfl) (sI _ _ rfl) (sA _ rfl) (sA _ rfl), h3.c (sI _ _ rfl) (sI _ _ rfl) (sA _ rfl) (sA _ rfl), h4.c s60 s61, h5.c e15 (fun q a b => sA q (by simp [zKA]; omega)) (sA _ rfl), h6.c e30 e37 (fun q a b => sA q (by simp [zKA]; omega)) (sA _ rfl) (sA _ rfl), h7.c (sI _ _ rfl) (sI _ _ rfl) (sI _ _ rfl) (fun q a b => sA q (by simp [zKA]; omega)) (sA _ rfl)⟩
end
