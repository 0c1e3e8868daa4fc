theorem zdk_cut {b : ByteArray} {c : List (Nat × Nat × Instr)} (n : Nat) (h1 : zdk b (c.take n) = true) (h2 : zdk b (c.drop n) = true) : zdk b c = true := by
  rw [← List.take_append_drop n c]
  unfold zdk at *
  rw [List.all_append, h1, h2]; rfl
theorem zdL_0 : zdk code ((zc_255.drop 0).take 40) = true := by decide +kernel
theorem zdL_1 : zdk code ((zc_255.drop 40).take 40) = true := by decide +kernel
theorem zdL_2 : zdk code ((zc_255.drop 80).take 40) = true := by decide +kernel
theorem zdL_3 : zdk code ((zc_255.drop 120).take 40) = true := by decide +kernel
theorem zdL_4 : zdk code ((zc_255.drop 160).take 40) = true := by decide +kernel
theorem zdL_5 : zdk code ((zc_255.drop 200).take 40) = true := by decide +kernel
theorem zdL_6 : zdk code ((zc_255.drop 240).take 40) = true := by decide +kernel
theorem zdL_7 : zdk code ((zc_255.drop 280).take 40) = true := by decide +kernel
theorem zdL_8 : zdk code ((zc_255.drop 320).take 40) = true := by decide +kernel
theorem zdL_9 : zdk code ((zc_255.drop 360).take 40) = true := by decide +kernel
theorem zdL_10 : zdk code ((zc_255.drop 400).take 40) = true := by decide +kernel
theorem zdL_11 : zdk code ((zc_255.drop 440).take 40) = true := by decide +kernel
theorem zdL_12 : zdk code ((zc_255.drop 480).take 40) = true := by decide +kernel
theorem zdL_13 : zdk code ((zc_255.drop 520).take 40) = true := by decide +kernel
theorem zdL_14 : zdk code ((zc_255.drop 560).take 40) = true := by decide +kernel
theorem zdL_15 : zdk code ((zc_255.drop 600).take 40) = true := by decide +kernel
theorem zdL_16 : zdk code ((zc_255.drop 640).take 40) = true := by decide +kernel
theorem zdL_17 : zdk code ((zc_255.drop 680).take 40) = true := by decide +kernel
theorem zdL_18 : zdk code ((zc_255.drop 720).take 40) = true := by decide +kernel
theorem zdM_19 : zdk code (zc_255.drop 760) = true := by decide +kernel
theorem zdM_18 : zdk code (zc_255.drop 720) = true := zdk_cut 40 zdL_18 (by rw [List.drop_drop]; exact zdM_19)
theorem zdM_17 : zdk code (zc_255.drop 680) = true := zdk_cut 40 zdL_17 (by rw [List.drop_drop]; exact zdM_18)
theorem zdM_16 : zdk code (zc_255.drop 640) = true := zdk_cut 40 zdL_16 (by rw [List.drop_drop]; exact zdM_17)
theorem zdM_15 : zdk code (zc_255.drop 600) = true := zdk_cut 40 zdL_15 (by rw [List.drop_drop]; exact zdM_16)
theorem zdM_14 : zdk code (zc_255.drop 560) = true := zdk_cut 40 zdL_14 (by rw [List.drop_drop]; exact zdM_15)
theorem zdM_13 : zdk code (zc_255.drop 520) = true := zdk_cut 40 zdL_13 (by rw [List.drop_drop]; exact zdM_14)
theorem zdM_12 : zdk code (zc_255.drop 480) = true := zdk_cut 40 zdL_12 (by rw [List.drop_drop]; exact zdM_13)
theorem zdM_11 : zdk code (zc_255.drop 440) = true := zdk_cut 40 zdL_11 (by rw [List.drop_drop]; exact zdM_12)
theorem zdM_10 : zdk code (zc_255.drop 400) = true := zdk_cut 40 zdL_10 (by rw [List.drop_drop]; exact zdM_11)
theorem zdM_9 : zdk code (zc_255.drop 360) = true := zdk_cut 40 zdL_9 (by rw [List.drop_drop]; exact zdM_10)
theorem zdM_8 : zdk code (zc_255.drop 320) = true := zdk_cut 40 zdL_8 (by rw [List.drop_drop]; exact zdM_9)
theorem zdM_7 : zdk code (zc_255.drop 280) = true := zdk_cut 40 zdL_7 (by rw [List.drop_drop]; exact zdM_8)
theorem zdM_6 : zdk code (zc_255.drop 240) = true := zdk_cut 40 zdL_6 (by rw [List.drop_drop]; exact zdM_7)
theorem zdM_5 : zdk code (zc_255.drop 200) = true := zdk_cut 40 zdL_5 (by rw [List.drop_drop]; exact zdM_6)
theorem zdM_4 : zdk code (zc_255.drop 160) = true := zdk_cut 40 zdL_4 (by rw [List.drop_drop]; exact zdM_5)
theorem zdM_3 : zdk code (zc_255.drop 120) = true := zdk_cut 40 zdL_3 (by rw [List.drop_drop]; exact zdM_4)
theorem zdM_2 : zdk code (zc_255.drop 80) = true := zdk_cut 40 zdL_2 (by rw [List.drop_drop]; exact zdM_3)
theorem zdM_1 : zdk code (zc_255.drop 40) = true := zdk_cut 40 zdL_1 (by rw [List.drop_drop]; exact zdM_2)
theorem zdM_0 : zdk code (zc_255.drop 0) = true := zdk_cut 40 zdL_0 (by rw [List.drop_drop]; exact zdM_1)
theorem zd_255 : zdk code zc_255 = true := zdM_0
