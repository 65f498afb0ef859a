/-! tried by the kernel: a factor from 150 to 32768 -/
def cLs : List Nat := [11, 13, 17, 19, 23, 29, 31, 37, 41, 43, 47, 53, 59, 61, 67, 71, 73, 79, 83, 89, 97, 101, 103, 107, 109, 113, 127, 131, 137, 139, 149]
def wLs : List Nat := [2, 3, 5, 7, 11, 13, 17, 19, 23, 29, 31, 37, 41, 43, 47, 53, 59, 61, 67, 71, 73, 79, 83, 89, 97, 101, 103, 107, 109, 113, 127, 131, 137, 139, 149]
theorem run_B0 : tF (lpA wLs) (fun W => allU (fB W) 156 3 150) = true := by decide +kernel
theorem run_B1 : tF (lpA wLs) (fun W => allU (fB W) 157 0 157) = true := by decide +kernel
theorem run_B2 : tF (lpA wLs) (fun W => allU (fB W) 166 4 158) = true := by decide +kernel
theorem run_B3 : tF (lpA wLs) (fun W => allU (fB W) 172 3 167) = true := by decide +kernel
theorem run_B4 : tF (lpA wLs) (fun W => allU (fB W) 180 3 173) = true := by decide +kernel
theorem run_B5 : tF (lpA wLs) (fun W => allU (fB W) 192 4 181) = true := by decide +kernel
theorem run_B6 : tF (lpA wLs) (fun W => allU (fB W) 196 2 193) = true := by decide +kernel
theorem run_B7 : tF (lpA wLs) (fun W => allU (fB W) 198 1 197) = true := by decide +kernel
theorem run_B8 : tF (lpA wLs) (fun W => allU (fB W) 222 5 199) = true := by decide +kernel
theorem run_B9 : tF (lpA wLs) (fun W => allU (fB W) 223 0 223) = true := by decide +kernel
