/-! the law's code, decoded -/
def pm_lawE (e : Nat × pm_J) : Bool := decide (decode code e.1 = .ok (e.2.1, e.2.2.1)) && pm_okI 12 false 4 e.1 e.2
theorem pm_law0 : ((K_law.2.2.2.drop 0).take 40).all pm_lawE = true := by decide +kernel
theorem pm_law1 : ((K_law.2.2.2.drop 40).take 40).all pm_lawE = true := by decide +kernel
theorem pm_law2 : ((K_law.2.2.2.drop 80).take 40).all pm_lawE = true := by decide +kernel
theorem pm_law3 : ((K_law.2.2.2.drop 120).take 40).all pm_lawE = true := by decide +kernel
theorem pm_law4 : ((K_law.2.2.2.drop 160).take 40).all pm_lawE = true := by decide +kernel
theorem pm_law5 : ((K_law.2.2.2.drop 200).take 40).all pm_lawE = true := by decide +kernel
theorem pm_law6 : ((K_law.2.2.2.drop 240).take 40).all pm_lawE = true := by decide +kernel
theorem pm_law7 : ((K_law.2.2.2.drop 280).take 40).all pm_lawE = true := by decide +kernel
theorem pm_law8 : ((K_law.2.2.2.drop 320).take 40).all pm_lawE = true := by decide +kernel
theorem pm_law9 : ((K_law.2.2.2.drop 360).take 40).all pm_lawE = true := by decide +kernel
theorem pm_law10 : ((K_law.2.2.2.drop 400).take 40).all pm_lawE = true := by decide +kernel
theorem pm_law11 : ((K_law.2.2.2.drop 440).take 40).all pm_lawE = true := by decide +kernel
theorem pm_law12 : ((K_law.2.2.2.drop 480).take 40).all pm_lawE = true := by decide +kernel
theorem pm_law13 : ((K_law.2.2.2.drop 520).take 40).all pm_lawE = true := by decide +kernel
theorem pm_law14 : ((K_law.2.2.2.drop 560).take 40).all pm_lawE = true := by decide +kernel
theorem pm_law15 : ((K_law.2.2.2.drop 600).take 40).all pm_lawE = true := by decide +kernel
theorem pm_law16 : ((K_law.2.2.2.drop 640).take 40).all pm_lawE = true := by decide +kernel
theorem pm_law17 : ((K_law.2.2.2.drop 680).take 40).all pm_lawE = true := by decide +kernel
theorem pm_law18 : ((K_law.2.2.2.drop 720).take 40).all pm_lawE = true := by decide +kernel
theorem pm_law19 : ((K_law.2.2.2.drop 760).take 40).all pm_lawE = true := by decide +kernel
theorem pm_law20 : ((K_law.2.2.2.drop 800).take 40).all pm_lawE = true := by decide +kernel
theorem pm_law21 : ((K_law.2.2.2.drop 840).take 40).all pm_lawE = true := by decide +kernel
theorem pm_law_step {l : List (Nat × pm_J)} {k n : Nat} (h1 : ((l.drop k).take n).all pm_lawE = true) (h2 : (l.drop (k + n)).all pm_lawE = true) : (l.drop k).all pm_lawE = true := by
  rw [← List.take_append_drop n (l.drop k), List.all_append, h1, List.drop_drop, h2]
  rfl
theorem pm_law_ok : K_law.2.2.2.all pm_lawE = true := pm_law_step (k := 0) (n := 40) pm_law0 (pm_law_step (k := 40) (n := 40) pm_law1 (pm_law_step (k := 80) (n := 40) pm_law2 (pm_law_step (k := 120) (n := 40) pm_law3 (pm_law_step (k := 160) (n := 40) pm_law4 (pm_law_step (k := 200) (n := 40) pm_law5 (pm_law_step (k := 240) (n := 40) pm_law6 (pm_law_step (k := 280) (n := 40) pm_law7 (pm_law_step (k := 320) (n := 40) pm_law8 (pm_law_step (k := 360) (n := 40) pm_law9 (pm_law_step (k := 400) (n := 40) pm_law10 (pm_law_step (k := 440) (n := 40) pm_law11 (pm_law_step (k := 480) (n := 40) pm_law12 (pm_law_step (k := 520) (n := 40) pm_law13 (pm_law_step (k := 560) (n := 40) pm_law14 (pm_law_step (k := 600) (n := 40) pm_law15 (pm_law_step (k := 640) (n := 40) pm_law16 (pm_law_step (k := 680) (n := 40) pm_law17 (pm_law_step (k := 720) (n := 40) pm_law18 (pm_law_step (k := 760) (n := 40) pm_law19 (pm_law_step (k := 800) (n := 40) pm_law20 (pm_law_step (k := 840) (n := 40) pm_law21 ((by decide +kernel)))))))))))))))))))))))
