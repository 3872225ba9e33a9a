/-! all methods, joined -/
theorem pm_zt {ms : List pm_T} {Ms : List pm_M} (h : ms.length = Ms.length) (a : ms.length ≤ 32) (c0 : (((ms.drop 0).take 8).zip ((Ms.drop 0).take 8)).all (fun z => pm_codeW z.1 z.2) = true) (c1 : (((ms.drop 8).take 8).zip ((Ms.drop 8).take 8)).all (fun z => pm_codeW z.1 z.2) = true) (c2 : (((ms.drop 16).take 8).zip ((Ms.drop 16).take 8)).all (fun z => pm_codeW z.1 z.2) = true) (c3 : (((ms.drop 24).take 8).zip ((Ms.drop 24).take 8)).all (fun z => pm_codeW z.1 z.2) = true) : (ms.zip Ms).all (fun z => pm_codeW z.1 z.2) = true := by
  rw [List.all_eq_true]
  intro z hz
  obtain ⟨i, hi⟩ := List.getElem?_of_mem hz
  rw [List.getElem?_zip_eq_some] at hi
  obtain ⟨h1, h2⟩ := hi
  have hl : i < ms.length := (List.getElem?_eq_some_iff.mp h1).1
  have go : ∀ k, k ≤ i → i < k + 8 → (((ms.drop k).take 8).zip ((Ms.drop k).take 8)).all (fun z => pm_codeW z.1 z.2) = true → pm_codeW z.1 z.2 = true := by
    intro k g1 g2 g3
    refine List.all_eq_true.mp g3 z (List.mem_of_getElem? (i := i - k) ?_)
    rw [List.getElem?_zip_eq_some]
    rw [List.getElem?_take, if_pos (by omega), List.getElem?_drop, List.getElem?_take, if_pos (by omega), List.getElem?_drop, show k + (i - k) = i by omega]
    exact ⟨h1, h2⟩
  rcases (show i < 8 ∨ (8 ≤ i ∧ i < 16) ∨ (16 ≤ i ∧ i < 24) ∨ (24 ≤ i ∧ i < 32) by omega) with q | q | q | q
  · exact go 0 (by omega) (by omega) c0
  · exact go 8 (by omega) (by omega) c1
  · exact go 16 (by omega) (by omega) c2
  · exact go 24 (by omega) (by omega) c3
theorem pm_cz0 : (pm_mt0.zip pm_ms0).all (fun z => pm_codeW z.1 z.2) = true := pm_zt rfl (by decide) pm_cw0_0 pm_cw0_1 pm_cw0_2 pm_cw0_3
theorem pm_cz1 : (pm_mt1.zip pm_ms1).all (fun z => pm_codeW z.1 z.2) = true := pm_zt rfl (by decide) pm_cw1_0 pm_cw1_1 pm_cw1_2 pm_cw1_3
theorem pm_cz2 : (pm_mt2.zip pm_ms2).all (fun z => pm_codeW z.1 z.2) = true := pm_zt rfl (by decide) pm_cw2_0 pm_cw2_1 pm_cw2_2 pm_cw2_3
theorem pm_cz3 : (pm_mt3.zip pm_ms3).all (fun z => pm_codeW z.1 z.2) = true := pm_zt rfl (by decide) pm_cw3_0 pm_cw3_1 pm_cw3_2 pm_cw3_3
theorem pm_cz4 : (pm_mt4.zip pm_ms4).all (fun z => pm_codeW z.1 z.2) = true := pm_zt rfl (by decide) pm_cw4_0 pm_cw4_1 pm_cw4_2 pm_cw4_3
theorem pm_cz5 : (pm_mt5.zip pm_ms5).all (fun z => pm_codeW z.1 z.2) = true := pm_zt rfl (by decide) pm_cw5_0 pm_cw5_1 pm_cw5_2 pm_cw5_3
theorem pm_cz6 : (pm_mt6.zip pm_ms6).all (fun z => pm_codeW z.1 z.2) = true := pm_zt rfl (by decide) pm_cw6_0 pm_cw6_1 pm_cw6_2 pm_cw6_3
theorem pm_cz7 : (pm_mt7.zip pm_ms7).all (fun z => pm_codeW z.1 z.2) = true := pm_zt rfl (by decide) pm_cw7_0 pm_cw7_1 pm_cw7_2 rfl
theorem pm_za {a c : List pm_T} {b d : List pm_M} (h : a.length = b.length) (h1 : (a.zip b).all (fun z => pm_codeW z.1 z.2) = true) (h2 : (c.zip d).all (fun z => pm_codeW z.1 z.2) = true) : ((a ++ c).zip (b ++ d)).all (fun z => pm_codeW z.1 z.2) = true := by
  rw [List.zip_append h, List.all_append, h1, h2]
  rfl
theorem pm_cw_zip : (pm_mt.zip pm_ms).all (fun z => pm_codeW z.1 z.2) = true := pm_za rfl (pm_za rfl (pm_za rfl (pm_za rfl (pm_za rfl (pm_za rfl (pm_za rfl (pm_cz0) pm_cz1) pm_cz2) pm_cz3) pm_cz4) pm_cz5) pm_cz6) pm_cz7
