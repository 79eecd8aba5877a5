theorem ck0_0 : mt0_0.all (chkE mi0) = true := by decide +kernel
theorem ck0_1 : mt0_1.all (chkE mi0) = true := by decide +kernel
theorem ck0_2 : mt0_2.all (chkE mi0) = true := by decide +kernel
theorem ck0_3 : mt0_3.all (chkE mi0) = true := by decide +kernel
theorem ck0_4 : mt0_4.all (chkE mi0) = true := by decide +kernel
theorem ck0_5 : mt0_5.all (chkE mi0) = true := by decide +kernel
theorem ck0_6 : mt0_6.all (chkE mi0) = true := by decide +kernel
theorem ck0_7 : mt0_7.all (chkE mi0) = true := by decide +kernel
theorem ck0_8 : mt0_8.all (chkE mi0) = true := by decide +kernel
theorem ck0_9 : mt0_9.all (chkE mi0) = true := by decide +kernel
theorem ck0_10 : mt0_10.all (chkE mi0) = true := by decide +kernel
theorem ck0_11 : mt0_11.all (chkE mi0) = true := by decide +kernel
theorem ck0_12 : mt0_12.all (chkE mi0) = true := by decide +kernel
theorem ck0_13 : mt0_13.all (chkE mi0) = true := by decide +kernel
theorem ck0_14 : mt0_14.all (chkE mi0) = true := by decide +kernel
theorem ck0_15 : mt0_15.all (chkE mi0) = true := by decide +kernel
theorem ck0_16 : mt0_16.all (chkE mi0) = true := by decide +kernel
theorem ck0 : (mCd mi0).all (chkE mi0) = true := by
  show mt0.all (chkE mi0) = true
  simp only [mt0, List.all_append, ck0_0, ck0_1, ck0_2, ck0_3, ck0_4, ck0_5, ck0_6, ck0_7, ck0_8, ck0_9, ck0_10, ck0_11, ck0_12, ck0_13, ck0_14, ck0_15, ck0_16, Bool.and_self]
