/-! tried by the kernel: a factor from 150 to 32768, on -/
theorem run_B10 : tF (lpA wLs) (fun W => allU (fB W) 232 4 224) = true := by decide +kernel
theorem run_B11 : tF (lpA wLs) (fun W => allU (fB W) 250 5 233) = true := by decide +kernel
theorem run_B12 : tF (lpA wLs) (fun W => allU (fB W) 270 5 251) = true := by decide +kernel
theorem run_B13 : tF (lpA wLs) (fun W => allU (fB W) 282 4 271) = true := by decide +kernel
theorem run_B14 : tF (lpA wLs) (fun W => allU (fB W) 316 6 283) = true := by decide +kernel
theorem run_B15 : tF (lpA wLs) (fun W => allU (fB W) 366 6 317) = true := by decide +kernel
theorem run_B16 : tF (lpA wLs) (fun W => allU (fB W) 418 6 367) = true := by decide +kernel
theorem run_B17 : tF (lpA wLs) (fun W => allU (fB W) 456 6 419) = true := by decide +kernel
theorem run_B18 : tF (lpA wLs) (fun W => allU (fB W) 556 7 457) = true := by decide +kernel
theorem run_B19 : tF (lpA wLs) (fun W => allU (fB W) 676 7 557) = true := by decide +kernel
