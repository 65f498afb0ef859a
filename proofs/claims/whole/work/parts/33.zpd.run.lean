/-! tried by the kernel: a factor from 150 to 32768, on -/
theorem run_B20 : tF (lpA wLs) (fun W => allU (fB W) 918 8 677) = true := by decide +kernel
theorem run_B21 : tF (lpA wLs) (fun W => allU (fB W) 1320 9 919) = true := by decide +kernel
theorem run_B22 : tF (lpA wLs) (fun W => allU (fB W) 2338 10 1321) = true := by decide +kernel
theorem run_B23 : tF (lpA wLs) (fun W => allU (fB W) 4798 12 2339) = true := by decide +kernel
theorem run_B24 : tF (lpA wLs) (fun W => allU (fB W) 9748 13 4799) = true := by decide +kernel
theorem run_B25 : tF (lpA wLs) (fun W => allU (fB W) 16140 13 9749) = true := by decide +kernel
theorem run_B26 : tF (lpA wLs) (fun W => allU (fB W) 23202 13 16141) = true := by decide +kernel
theorem run_B27 : tF (lpA wLs) (fun W => allU (fB W) 30702 13 23203) = true := by decide +kernel
theorem run_B28 : tF (lpA wLs) (fun W => allU (fB W) 32768 12 30703) = true := by decide +kernel
