/-! the law, case by case: written by gen_law.py -/
section LWC
variable {N : Nat} {X : Nat → Int} {i : Nat} {U : am_U}
set_option maxRecDepth 40000 in
set_option maxHeartbeats 4000000 in
theorem law_c0 (hN : N ≤ 3072) (hi : i + 5 < N) (hX : ∀ j, in32 (X j)) (hI : Inv U) : ∃ U2, Inv U2 ∧ ∀ R, EvK N X (2048, 0, 1119, Lw i, [], (am_sh, am_mm U2)) R → EvK N X (2048, 0, 188, Lw i, [], (am_sh, am_mm U)) R := by
  obtain ⟨r, U1, U2, h1, h2, h3⟩ := call_feed (N := N) (X := X) (d := 1955) hI (X (i + 1)) (X (i + 2)) (X (i + 3)) (X (i + 4)) (X (i + 5))
  refine ⟨U2, h3, fun R hR => ?_⟩
  refine cn_seg (pc' := 189) (L' := Lw i) (st' := [.inr (.inr 1)]) 1 (fun _ _ => rfl) ?_
  refine law_arg (k := 1) (pt := 194) hN (by omega) rfl (fun _ _ => rfl) rfl rfl ?_
  refine law_arg (k := 2) (pt := 199) hN (by omega) rfl (fun _ _ => rfl) rfl rfl ?_
  refine law_arg (k := 3) (pt := 204) hN (by omega) rfl (fun _ _ => rfl) rfl rfl ?_
  refine law_arg (k := 4) (pt := 209) hN (by omega) rfl (fun _ _ => rfl) rfl rfl ?_
  refine law_arg (k := 5) (pt := 214) hN (by omega) rfl (fun _ _ => rfl) rfl rfl ?_
  refine ev_cal (d := 2048) (mi := 0) (pc := 217) (L := Lw i) (rest := []) (fun k => rfl) h1 ?_
  show EvK N X (2048, 0, 217, Lw i, [.inl r], (am_sh, am_mm U1)) R
  refine cn_seg (pc' := 218) (L' := Lw i) (st' := [.inr (.inr 86), .inl r]) 1 (fun _ _ => rfl) ?_
  refine law_arg (k := 1) (pt := 223) hN (by omega) rfl (fun _ _ => rfl) rfl rfl ?_
  refine law_arg (k := 2) (pt := 228) hN (by omega) rfl (fun _ _ => rfl) rfl rfl ?_
  refine law_arg (k := 3) (pt := 233) hN (by omega) rfl (fun _ _ => rfl) rfl rfl ?_
  refine law_arg (k := 4) (pt := 238) hN (by omega) rfl (fun _ _ => rfl) rfl rfl ?_
  refine law_arg (k := 5) (pt := 243) hN (by omega) rfl (fun _ _ => rfl) rfl rfl ?_
  refine ev_cal (d := 2048) (mi := 0) (pc := 246) (L := Lw i) (rest := [.inl r]) (fun k => rfl) h2 ?_
  show EvK N X (2048, 0, 246, Lw i, [.inl r, .inl r], (am_sh, am_mm U2)) R
  exact law_cmp rfl hR
set_option maxRecDepth 40000 in
set_option maxHeartbeats 4000000 in
theorem law_c1 (hN : N ≤ 3072) (hi : i + 5 < N) (hX : ∀ j, in32 (X j)) (hI : Inv U) : ∃ U2, Inv U2 ∧ ∀ R, EvK N X (2048, 0, 1119, Lw i, [], (am_sh, am_mm U2)) R → EvK N X (2048, 0, 251, Lw i, [], (am_sh, am_mm U)) R := by
  obtain ⟨r, U1, U2, h1, h2, h3⟩ := call_end (N := N) (X := X) (d := 1955) hI (X (i + 1))
  refine ⟨U2, h3, fun R hR => ?_⟩
  refine cn_seg (pc' := 252) (L' := Lw i) (st' := [.inr (.inr 1)]) 1 (fun _ _ => rfl) ?_
  refine law_arg (k := 1) (pt := 257) hN (by omega) rfl (fun _ _ => rfl) rfl rfl ?_
  refine ev_cal (d := 2048) (mi := 0) (pc := 260) (L := Lw i) (rest := []) (fun k => rfl) h1 ?_
  show EvK N X (2048, 0, 260, Lw i, [.inl r], (am_sh, am_mm U1)) R
  refine cn_seg (pc' := 261) (L' := Lw i) (st' := [.inr (.inr 86), .inl r]) 1 (fun _ _ => rfl) ?_
  refine law_arg (k := 1) (pt := 266) hN (by omega) rfl (fun _ _ => rfl) rfl rfl ?_
  refine ev_cal (d := 2048) (mi := 0) (pc := 269) (L := Lw i) (rest := [.inl r]) (fun k => rfl) h2 ?_
  show EvK N X (2048, 0, 269, Lw i, [.inl r, .inl r], (am_sh, am_mm U2)) R
  exact law_cmp rfl hR
set_option maxRecDepth 40000 in
set_option maxHeartbeats 4000000 in
theorem law_c2 (hN : N ≤ 3072) (hi : i + 5 < N) (hX : ∀ j, in32 (X j)) (hI : Inv U) : ∃ U2, Inv U2 ∧ ∀ R, EvK N X (2048, 0, 1119, Lw i, [], (am_sh, am_mm U2)) R → EvK N X (2048, 0, 274, Lw i, [], (am_sh, am_mm U)) R := by
  obtain ⟨r, U1, U2, h1, h2, h3⟩ := call_town (N := N) (X := X) (d := 1955) hI 
  refine ⟨U2, h3, fun R hR => ?_⟩
  refine cn_seg (pc' := 275) (L' := Lw i) (st' := [.inr (.inr 1)]) 1 (fun _ _ => rfl) ?_
  refine ev_cal (d := 2048) (mi := 0) (pc := 278) (L := Lw i) (rest := []) (fun k => rfl) h1 ?_
  show EvK N X (2048, 0, 278, Lw i, [.inl r], (am_sh, am_mm U1)) R
  refine cn_seg (pc' := 279) (L' := Lw i) (st' := [.inr (.inr 86), .inl r]) 1 (fun _ _ => rfl) ?_
  refine ev_cal (d := 2048) (mi := 0) (pc := 282) (L := Lw i) (rest := [.inl r]) (fun k => rfl) h2 ?_
  show EvK N X (2048, 0, 282, Lw i, [.inl r, .inl r], (am_sh, am_mm U2)) R
  exact law_cmp rfl hR
set_option maxRecDepth 40000 in
set_option maxHeartbeats 4000000 in
theorem law_c3 (hN : N ≤ 3072) (hi : i + 5 < N) (hX : ∀ j, in32 (X j)) (hI : Inv U) : ∃ U2, Inv U2 ∧ ∀ R, EvK N X (2048, 0, 1119, Lw i, [], (am_sh, am_mm U2)) R → EvK N X (2048, 0, 287, Lw i, [], (am_sh, am_mm U)) R := by
  obtain ⟨r, U1, U2, h1, h2, h3⟩ := call_fault (N := N) (X := X) (d := 1955) hI (X (i + 1))
  refine ⟨U2, h3, fun R hR => ?_⟩
  refine cn_seg (pc' := 288) (L' := Lw i) (st' := [.inr (.inr 1)]) 1 (fun _ _ => rfl) ?_
  refine law_arg (k := 1) (pt := 293) hN (by omega) rfl (fun _ _ => rfl) rfl rfl ?_
  refine ev_cal (d := 2048) (mi := 0) (pc := 296) (L := Lw i) (rest := []) (fun k => rfl) h1 ?_
  show EvK N X (2048, 0, 296, Lw i, [.inl r], (am_sh, am_mm U1)) R
  refine cn_seg (pc' := 297) (L' := Lw i) (st' := [.inr (.inr 86), .inl r]) 1 (fun _ _ => rfl) ?_
  refine law_arg (k := 1) (pt := 302) hN (by omega) rfl (fun _ _ => rfl) rfl rfl ?_
  refine ev_cal (d := 2048) (mi := 0) (pc := 305) (L := Lw i) (rest := [.inl r]) (fun k => rfl) h2 ?_
  show EvK N X (2048, 0, 305, Lw i, [.inl r, .inl r], (am_sh, am_mm U2)) R
  exact law_cmp rfl hR
set_option maxRecDepth 40000 in
set_option maxHeartbeats 4000000 in
theorem law_c4 (hN : N ≤ 3072) (hi : i + 5 < N) (hX : ∀ j, in32 (X j)) (hI : Inv U) : ∃ U2, Inv U2 ∧ ∀ R, EvK N X (2048, 0, 1119, Lw i, [], (am_sh, am_mm U2)) R → EvK N X (2048, 0, 310, Lw i, [], (am_sh, am_mm U)) R := by
  obtain ⟨r, U1, U2, h1, h2, h3⟩ := call_has (N := N) (X := X) (d := 1955) hI (X (i + 1))
  refine ⟨U2, h3, fun R hR => ?_⟩
  refine cn_seg (pc' := 311) (L' := Lw i) (st' := [.inr (.inr 1)]) 1 (fun _ _ => rfl) ?_
  refine law_arg (k := 1) (pt := 316) hN (by omega) rfl (fun _ _ => rfl) rfl rfl ?_
  refine ev_cal (d := 2048) (mi := 0) (pc := 319) (L := Lw i) (rest := []) (fun k => rfl) h1 ?_
  show EvK N X (2048, 0, 319, Lw i, [.inl r], (am_sh, am_mm U1)) R
  refine cn_seg (pc' := 320) (L' := Lw i) (st' := [.inr (.inr 86), .inl r]) 1 (fun _ _ => rfl) ?_
  refine law_arg (k := 1) (pt := 325) hN (by omega) rfl (fun _ _ => rfl) rfl rfl ?_
  refine ev_cal (d := 2048) (mi := 0) (pc := 328) (L := Lw i) (rest := [.inl r]) (fun k => rfl) h2 ?_
  show EvK N X (2048, 0, 328, Lw i, [.inl r, .inl r], (am_sh, am_mm U2)) R
  exact law_cmp rfl hR
set_option maxRecDepth 40000 in
set_option maxHeartbeats 4000000 in
theorem law_c5 (hN : N ≤ 3072) (hi : i + 5 < N) (hX : ∀ j, in32 (X j)) (hI : Inv U) : ∃ U2, Inv U2 ∧ ∀ R, EvK N X (2048, 0, 1119, Lw i, [], (am_sh, am_mm U2)) R → EvK N X (2048, 0, 333, Lw i, [], (am_sh, am_mm U)) R := by
  obtain ⟨r, U1, U2, h1, h2, h3⟩ := call_letter (N := N) (X := X) (d := 1955) hI (X (i + 1)) (X (i + 2)) (X (i + 3))
  refine ⟨U2, h3, fun R hR => ?_⟩
  refine cn_seg (pc' := 334) (L' := Lw i) (st' := [.inr (.inr 1)]) 1 (fun _ _ => rfl) ?_
  refine law_arg (k := 1) (pt := 339) hN (by omega) rfl (fun _ _ => rfl) rfl rfl ?_
  refine law_arg (k := 2) (pt := 344) hN (by omega) rfl (fun _ _ => rfl) rfl rfl ?_
  refine law_arg (k := 3) (pt := 349) hN (by omega) rfl (fun _ _ => rfl) rfl rfl ?_
  refine ev_cal (d := 2048) (mi := 0) (pc := 352) (L := Lw i) (rest := []) (fun k => rfl) h1 ?_
  show EvK N X (2048, 0, 352, Lw i, [.inl r], (am_sh, am_mm U1)) R
  refine cn_seg (pc' := 353) (L' := Lw i) (st' := [.inr (.inr 86), .inl r]) 1 (fun _ _ => rfl) ?_
  refine law_arg (k := 1) (pt := 358) hN (by omega) rfl (fun _ _ => rfl) rfl rfl ?_
  refine law_arg (k := 2) (pt := 363) hN (by omega) rfl (fun _ _ => rfl) rfl rfl ?_
  refine law_arg (k := 3) (pt := 368) hN (by omega) rfl (fun _ _ => rfl) rfl rfl ?_
  refine ev_cal (d := 2048) (mi := 0) (pc := 371) (L := Lw i) (rest := [.inl r]) (fun k => rfl) h2 ?_
  show EvK N X (2048, 0, 371, Lw i, [.inl r, .inl r], (am_sh, am_mm U2)) R
  exact law_cmp rfl hR
set_option maxRecDepth 40000 in
set_option maxHeartbeats 4000000 in
theorem law_c6 (hN : N ≤ 3072) (hi : i + 5 < N) (hX : ∀ j, in32 (X j)) (hI : Inv U) : ∃ U2, Inv U2 ∧ ∀ R, EvK N X (2048, 0, 1119, Lw i, [], (am_sh, am_mm U2)) R → EvK N X (2048, 0, 376, Lw i, [], (am_sh, am_mm U)) R := by
  obtain ⟨r, U1, U2, h1, h2, h3⟩ := call_house (N := N) (X := X) (d := 1955) hI (X (i + 1)) (X (i + 2)) (hX _)
  refine ⟨U2, h3, fun R hR => ?_⟩
  refine cn_seg (pc' := 377) (L' := Lw i) (st' := [.inr (.inr 1)]) 1 (fun _ _ => rfl) ?_
  refine law_arg (k := 1) (pt := 382) hN (by omega) rfl (fun _ _ => rfl) rfl rfl ?_
  refine law_arg (k := 2) (pt := 387) hN (by omega) rfl (fun _ _ => rfl) rfl rfl ?_
  refine ev_cal (d := 2048) (mi := 0) (pc := 390) (L := Lw i) (rest := []) (fun k => rfl) h1 ?_
  show EvK N X (2048, 0, 390, Lw i, [.inl r], (am_sh, am_mm U1)) R
  refine cn_seg (pc' := 391) (L' := Lw i) (st' := [.inr (.inr 86), .inl r]) 1 (fun _ _ => rfl) ?_
  refine law_arg (k := 1) (pt := 396) hN (by omega) rfl (fun _ _ => rfl) rfl rfl ?_
  refine law_arg (k := 2) (pt := 401) hN (by omega) rfl (fun _ _ => rfl) rfl rfl ?_
  refine ev_cal (d := 2048) (mi := 0) (pc := 404) (L := Lw i) (rest := [.inl r]) (fun k => rfl) h2 ?_
  show EvK N X (2048, 0, 404, Lw i, [.inl r, .inl r], (am_sh, am_mm U2)) R
  exact law_cmp rfl hR
set_option maxRecDepth 40000 in
set_option maxHeartbeats 4000000 in
theorem law_c7 (hN : N ≤ 3072) (hi : i + 5 < N) (hX : ∀ j, in32 (X j)) (hI : Inv U) : ∃ U2, Inv U2 ∧ ∀ R, EvK N X (2048, 0, 1119, Lw i, [], (am_sh, am_mm U2)) R → EvK N X (2048, 0, 409, Lw i, [], (am_sh, am_mm U)) R := by
  obtain ⟨r, U1, U2, h1, h2, h3⟩ := call_number (N := N) (X := X) (d := 1955) hI (X (i + 1))
  refine ⟨U2, h3, fun R hR => ?_⟩
  refine cn_seg (pc' := 410) (L' := Lw i) (st' := [.inr (.inr 1)]) 1 (fun _ _ => rfl) ?_
  refine law_arg (k := 1) (pt := 415) hN (by omega) rfl (fun _ _ => rfl) rfl rfl ?_
  refine ev_cal (d := 2048) (mi := 0) (pc := 418) (L := Lw i) (rest := []) (fun k => rfl) h1 ?_
  show EvK N X (2048, 0, 418, Lw i, [.inl r], (am_sh, am_mm U1)) R
  refine cn_seg (pc' := 419) (L' := Lw i) (st' := [.inr (.inr 86), .inl r]) 1 (fun _ _ => rfl) ?_
  refine law_arg (k := 1) (pt := 424) hN (by omega) rfl (fun _ _ => rfl) rfl rfl ?_
  refine ev_cal (d := 2048) (mi := 0) (pc := 427) (L := Lw i) (rest := [.inl r]) (fun k => rfl) h2 ?_
  show EvK N X (2048, 0, 427, Lw i, [.inl r, .inl r], (am_sh, am_mm U2)) R
  exact law_cmp rfl hR
set_option maxRecDepth 40000 in
set_option maxHeartbeats 4000000 in
theorem law_c8 (hN : N ≤ 3072) (hi : i + 5 < N) (hX : ∀ j, in32 (X j)) (hI : Inv U) : ∃ U2, Inv U2 ∧ ∀ R, EvK N X (2048, 0, 1119, Lw i, [], (am_sh, am_mm U2)) R → EvK N X (2048, 0, 432, Lw i, [], (am_sh, am_mm U)) R := by
  obtain ⟨r, U1, U2, h1, h2, h3⟩ := call_person (N := N) (X := X) (d := 1955) hI (X (i + 1)) (X (i + 2))
  refine ⟨U2, h3, fun R hR => ?_⟩
  refine cn_seg (pc' := 433) (L' := Lw i) (st' := [.inr (.inr 1)]) 1 (fun _ _ => rfl) ?_
  refine law_arg (k := 1) (pt := 438) hN (by omega) rfl (fun _ _ => rfl) rfl rfl ?_
  refine law_arg (k := 2) (pt := 443) hN (by omega) rfl (fun _ _ => rfl) rfl rfl ?_
  refine ev_cal (d := 2048) (mi := 0) (pc := 446) (L := Lw i) (rest := []) (fun k => rfl) h1 ?_
  show EvK N X (2048, 0, 446, Lw i, [.inl r], (am_sh, am_mm U1)) R
  refine cn_seg (pc' := 447) (L' := Lw i) (st' := [.inr (.inr 86), .inl r]) 1 (fun _ _ => rfl) ?_
  refine law_arg (k := 1) (pt := 452) hN (by omega) rfl (fun _ _ => rfl) rfl rfl ?_
  refine law_arg (k := 2) (pt := 457) hN (by omega) rfl (fun _ _ => rfl) rfl rfl ?_
  refine ev_cal (d := 2048) (mi := 0) (pc := 460) (L := Lw i) (rest := [.inl r]) (fun k => rfl) h2 ?_
  show EvK N X (2048, 0, 460, Lw i, [.inl r, .inl r], (am_sh, am_mm U2)) R
  exact law_cmp rfl hR
set_option maxRecDepth 40000 in
set_option maxHeartbeats 4000000 in
theorem law_c9 (hN : N ≤ 3072) (hi : i + 5 < N) (hX : ∀ j, in32 (X j)) (hI : Inv U) : ∃ U2, Inv U2 ∧ ∀ R, EvK N X (2048, 0, 1119, Lw i, [], (am_sh, am_mm U2)) R → EvK N X (2048, 0, 465, Lw i, [], (am_sh, am_mm U)) R := by
  obtain ⟨r, U1, U2, h1, h2, h3⟩ := call_breach (N := N) (X := X) (d := 1955) hI (X (i + 1)) (X (i + 2)) (hX _)
  refine ⟨U2, h3, fun R hR => ?_⟩
  refine cn_seg (pc' := 466) (L' := Lw i) (st' := [.inr (.inr 1)]) 1 (fun _ _ => rfl) ?_
  refine law_arg (k := 1) (pt := 471) hN (by omega) rfl (fun _ _ => rfl) rfl rfl ?_
  refine law_arg (k := 2) (pt := 476) hN (by omega) rfl (fun _ _ => rfl) rfl rfl ?_
  refine ev_cal (d := 2048) (mi := 0) (pc := 479) (L := Lw i) (rest := []) (fun k => rfl) h1 ?_
  show EvK N X (2048, 0, 479, Lw i, [.inl r], (am_sh, am_mm U1)) R
  refine cn_seg (pc' := 480) (L' := Lw i) (st' := [.inr (.inr 86), .inl r]) 1 (fun _ _ => rfl) ?_
  refine law_arg (k := 1) (pt := 485) hN (by omega) rfl (fun _ _ => rfl) rfl rfl ?_
  refine law_arg (k := 2) (pt := 490) hN (by omega) rfl (fun _ _ => rfl) rfl rfl ?_
  refine ev_cal (d := 2048) (mi := 0) (pc := 493) (L := Lw i) (rest := [.inl r]) (fun k => rfl) h2 ?_
  show EvK N X (2048, 0, 493, Lw i, [.inl r, .inl r], (am_sh, am_mm U2)) R
  exact law_cmp rfl hR
set_option maxRecDepth 40000 in
set_option maxHeartbeats 4000000 in
theorem law_c10 (hN : N ≤ 3072) (hi : i + 5 < N) (hX : ∀ j, in32 (X j)) (hI : Inv U) : ∃ U2, Inv U2 ∧ ∀ R, EvK N X (2048, 0, 1119, Lw i, [], (am_sh, am_mm U2)) R → EvK N X (2048, 0, 498, Lw i, [], (am_sh, am_mm U)) R := by
  obtain ⟨r, U1, U2, h1, h2, h3⟩ := call_may (N := N) (X := X) (d := 1955) hI (X (i + 1)) (X (i + 2))
  refine ⟨U2, h3, fun R hR => ?_⟩
  refine cn_seg (pc' := 499) (L' := Lw i) (st' := [.inr (.inr 1)]) 1 (fun _ _ => rfl) ?_
  refine law_arg (k := 1) (pt := 504) hN (by omega) rfl (fun _ _ => rfl) rfl rfl ?_
  refine law_arg (k := 2) (pt := 509) hN (by omega) rfl (fun _ _ => rfl) rfl rfl ?_
  refine ev_cal (d := 2048) (mi := 0) (pc := 512) (L := Lw i) (rest := []) (fun k => rfl) h1 ?_
  show EvK N X (2048, 0, 512, Lw i, [.inl r], (am_sh, am_mm U1)) R
  refine cn_seg (pc' := 513) (L' := Lw i) (st' := [.inr (.inr 86), .inl r]) 1 (fun _ _ => rfl) ?_
  refine law_arg (k := 1) (pt := 518) hN (by omega) rfl (fun _ _ => rfl) rfl rfl ?_
  refine law_arg (k := 2) (pt := 523) hN (by omega) rfl (fun _ _ => rfl) rfl rfl ?_
  refine ev_cal (d := 2048) (mi := 0) (pc := 526) (L := Lw i) (rest := [.inl r]) (fun k => rfl) h2 ?_
  show EvK N X (2048, 0, 526, Lw i, [.inl r, .inl r], (am_sh, am_mm U2)) R
  exact law_cmp rfl hR
set_option maxRecDepth 40000 in
set_option maxHeartbeats 4000000 in
theorem law_c11 (hN : N ≤ 3072) (hi : i + 5 < N) (hX : ∀ j, in32 (X j)) (hI : Inv U) : ∃ U2, Inv U2 ∧ ∀ R, EvK N X (2048, 0, 1119, Lw i, [], (am_sh, am_mm U2)) R → EvK N X (2048, 0, 531, Lw i, [], (am_sh, am_mm U)) R := by
  obtain ⟨r, U1, U2, h1, h2, h3⟩ := call_placed (N := N) (X := X) (d := 1955) hI (X (i + 1))
  refine ⟨U2, h3, fun R hR => ?_⟩
  refine cn_seg (pc' := 532) (L' := Lw i) (st' := [.inr (.inr 1)]) 1 (fun _ _ => rfl) ?_
  refine law_arg (k := 1) (pt := 537) hN (by omega) rfl (fun _ _ => rfl) rfl rfl ?_
  refine ev_cal (d := 2048) (mi := 0) (pc := 540) (L := Lw i) (rest := []) (fun k => rfl) h1 ?_
  show EvK N X (2048, 0, 540, Lw i, [.inl r], (am_sh, am_mm U1)) R
  refine cn_seg (pc' := 541) (L' := Lw i) (st' := [.inr (.inr 86), .inl r]) 1 (fun _ _ => rfl) ?_
  refine law_arg (k := 1) (pt := 546) hN (by omega) rfl (fun _ _ => rfl) rfl rfl ?_
  refine ev_cal (d := 2048) (mi := 0) (pc := 549) (L := Lw i) (rest := [.inl r]) (fun k => rfl) h2 ?_
  show EvK N X (2048, 0, 549, Lw i, [.inl r, .inl r], (am_sh, am_mm U2)) R
  exact law_cmp rfl hR
set_option maxRecDepth 40000 in
set_option maxHeartbeats 4000000 in
theorem law_c12 (hN : N ≤ 3072) (hi : i + 5 < N) (hX : ∀ j, in32 (X j)) (hI : Inv U) : ∃ U2, Inv U2 ∧ ∀ R, EvK N X (2048, 0, 1119, Lw i, [], (am_sh, am_mm U2)) R → EvK N X (2048, 0, 554, Lw i, [], (am_sh, am_mm U)) R := by
  obtain ⟨r, U1, U2, h1, h2, h3⟩ := call_holds (N := N) (X := X) (d := 1955) hI (X (i + 1)) (X (i + 2)) (X (i + 3))
  refine ⟨U2, h3, fun R hR => ?_⟩
  refine cn_seg (pc' := 555) (L' := Lw i) (st' := [.inr (.inr 1)]) 1 (fun _ _ => rfl) ?_
  refine law_arg (k := 1) (pt := 560) hN (by omega) rfl (fun _ _ => rfl) rfl rfl ?_
  refine law_arg (k := 2) (pt := 565) hN (by omega) rfl (fun _ _ => rfl) rfl rfl ?_
  refine law_arg (k := 3) (pt := 570) hN (by omega) rfl (fun _ _ => rfl) rfl rfl ?_
  refine ev_cal (d := 2048) (mi := 0) (pc := 573) (L := Lw i) (rest := []) (fun k => rfl) h1 ?_
  show EvK N X (2048, 0, 573, Lw i, [.inl r], (am_sh, am_mm U1)) R
  refine cn_seg (pc' := 574) (L' := Lw i) (st' := [.inr (.inr 86), .inl r]) 1 (fun _ _ => rfl) ?_
  refine law_arg (k := 1) (pt := 579) hN (by omega) rfl (fun _ _ => rfl) rfl rfl ?_
  refine law_arg (k := 2) (pt := 584) hN (by omega) rfl (fun _ _ => rfl) rfl rfl ?_
  refine law_arg (k := 3) (pt := 589) hN (by omega) rfl (fun _ _ => rfl) rfl rfl ?_
  refine ev_cal (d := 2048) (mi := 0) (pc := 592) (L := Lw i) (rest := [.inl r]) (fun k => rfl) h2 ?_
  show EvK N X (2048, 0, 592, Lw i, [.inl r, .inl r], (am_sh, am_mm U2)) R
  exact law_cmp rfl hR
set_option maxRecDepth 40000 in
set_option maxHeartbeats 4000000 in
theorem law_c13 (hN : N ≤ 3072) (hi : i + 5 < N) (hX : ∀ j, in32 (X j)) (hI : Inv U) : ∃ U2, Inv U2 ∧ ∀ R, EvK N X (2048, 0, 1119, Lw i, [], (am_sh, am_mm U2)) R → EvK N X (2048, 0, 597, Lw i, [], (am_sh, am_mm U)) R := by
  obtain ⟨r, U1, U2, h1, h2, h3⟩ := call_move (N := N) (X := X) (d := 1955) hI (X (i + 1)) (X (i + 2))
  refine ⟨U2, h3, fun R hR => ?_⟩
  refine cn_seg (pc' := 598) (L' := Lw i) (st' := [.inr (.inr 1)]) 1 (fun _ _ => rfl) ?_
  refine law_arg (k := 1) (pt := 603) hN (by omega) rfl (fun _ _ => rfl) rfl rfl ?_
  refine law_arg (k := 2) (pt := 608) hN (by omega) rfl (fun _ _ => rfl) rfl rfl ?_
  refine ev_cal (d := 2048) (mi := 0) (pc := 611) (L := Lw i) (rest := []) (fun k => rfl) h1 ?_
  show EvK N X (2048, 0, 611, Lw i, [.inl r], (am_sh, am_mm U1)) R
  refine cn_seg (pc' := 612) (L' := Lw i) (st' := [.inr (.inr 86), .inl r]) 1 (fun _ _ => rfl) ?_
  refine law_arg (k := 1) (pt := 617) hN (by omega) rfl (fun _ _ => rfl) rfl rfl ?_
  refine law_arg (k := 2) (pt := 622) hN (by omega) rfl (fun _ _ => rfl) rfl rfl ?_
  refine ev_cal (d := 2048) (mi := 0) (pc := 625) (L := Lw i) (rest := [.inl r]) (fun k => rfl) h2 ?_
  show EvK N X (2048, 0, 625, Lw i, [.inl r, .inl r], (am_sh, am_mm U2)) R
  exact law_cmp rfl hR
set_option maxRecDepth 40000 in
set_option maxHeartbeats 4000000 in
theorem law_c14 (hN : N ≤ 3072) (hi : i + 5 < N) (hX : ∀ j, in32 (X j)) (hI : Inv U) : ∃ U2, Inv U2 ∧ ∀ R, EvK N X (2048, 0, 1119, Lw i, [], (am_sh, am_mm U2)) R → EvK N X (2048, 0, 630, Lw i, [], (am_sh, am_mm U)) R := by
  rcases Classical.em (X (i + 1) = 0) with hx | hx
  · obtain ⟨r, U1, U2, h1, h2, h3⟩ := call_night (N := N) (X := X) (d := 1955) hI 0 (Or.inl rfl)
    refine ⟨U2, h3, fun R hR => ?_⟩
    refine cn_seg (pc' := 631) (L' := Lw i) (st' := [.inr (.inr 1)]) 1 (fun _ _ => rfl) ?_
    refine law_arg (k := 1) (pt := 636) hN (by omega) rfl (fun _ _ => rfl) rfl rfl ?_
    refine ev_br (P := X (i + 1) = 0) (σ1 := (2048, 0, 643, Lw i, [.inr (.inr 1)], (am_sh, am_mm U))) (σ2 := (2048, 0, 639, Lw i, [.inr (.inr 1)], (am_sh, am_mm U))) 1 (fun k => rfl) (fun hq => ?_) (fun hq => absurd hx hq)
    refine cn_seg (pc' := 644) (L' := Lw i) (st' := [.inl 0, .inr (.inr 1)]) 1 (fun _ _ => rfl) ?_
    refine ev_cal (d := 2048) (mi := 0) (pc := 647) (L := Lw i) (rest := []) (fun k => rfl) h1 ?_
    show EvK N X (2048, 0, 647, Lw i, [.inl r], (am_sh, am_mm U1)) R
    refine cn_seg (pc' := 648) (L' := Lw i) (st' := [.inr (.inr 86), .inl r]) 1 (fun _ _ => rfl) ?_
    refine law_arg (k := 1) (pt := 653) hN (by omega) rfl (fun _ _ => rfl) rfl rfl ?_
    refine ev_br (P := X (i + 1) = 0) (σ1 := (2048, 0, 660, Lw i, [.inr (.inr 86), .inl r], (am_sh, am_mm U1))) (σ2 := (2048, 0, 656, Lw i, [.inr (.inr 86), .inl r], (am_sh, am_mm U1))) 1 (fun k => rfl) (fun hq => ?_) (fun hq => absurd hx hq)
    refine cn_seg (pc' := 661) (L' := Lw i) (st' := [.inl 0, .inr (.inr 86), .inl r]) 1 (fun _ _ => rfl) ?_
    refine ev_cal (d := 2048) (mi := 0) (pc := 664) (L := Lw i) (rest := [.inl r]) (fun k => rfl) h2 ?_
    show EvK N X (2048, 0, 664, Lw i, [.inl r, .inl r], (am_sh, am_mm U2)) R
    exact law_cmp rfl hR
  · obtain ⟨r, U1, U2, h1, h2, h3⟩ := call_night (N := N) (X := X) (d := 1955) hI 1 (Or.inr rfl)
    refine ⟨U2, h3, fun R hR => ?_⟩
    refine cn_seg (pc' := 631) (L' := Lw i) (st' := [.inr (.inr 1)]) 1 (fun _ _ => rfl) ?_
    refine law_arg (k := 1) (pt := 636) hN (by omega) rfl (fun _ _ => rfl) rfl rfl ?_
    refine ev_br (P := X (i + 1) = 0) (σ1 := (2048, 0, 643, Lw i, [.inr (.inr 1)], (am_sh, am_mm U))) (σ2 := (2048, 0, 639, Lw i, [.inr (.inr 1)], (am_sh, am_mm U))) 1 (fun k => rfl) (fun hq => absurd hq hx) (fun hq => ?_)
    refine cn_seg (pc' := 644) (L' := Lw i) (st' := [.inl 1, .inr (.inr 1)]) 2 (fun _ _ => rfl) ?_
    refine ev_cal (d := 2048) (mi := 0) (pc := 647) (L := Lw i) (rest := []) (fun k => rfl) h1 ?_
    show EvK N X (2048, 0, 647, Lw i, [.inl r], (am_sh, am_mm U1)) R
    refine cn_seg (pc' := 648) (L' := Lw i) (st' := [.inr (.inr 86), .inl r]) 1 (fun _ _ => rfl) ?_
    refine law_arg (k := 1) (pt := 653) hN (by omega) rfl (fun _ _ => rfl) rfl rfl ?_
    refine ev_br (P := X (i + 1) = 0) (σ1 := (2048, 0, 660, Lw i, [.inr (.inr 86), .inl r], (am_sh, am_mm U1))) (σ2 := (2048, 0, 656, Lw i, [.inr (.inr 86), .inl r], (am_sh, am_mm U1))) 1 (fun k => rfl) (fun hq => absurd hq hx) (fun hq => ?_)
    refine cn_seg (pc' := 661) (L' := Lw i) (st' := [.inl 1, .inr (.inr 86), .inl r]) 2 (fun _ _ => rfl) ?_
    refine ev_cal (d := 2048) (mi := 0) (pc := 664) (L := Lw i) (rest := [.inl r]) (fun k => rfl) h2 ?_
    show EvK N X (2048, 0, 664, Lw i, [.inl r, .inl r], (am_sh, am_mm U2)) R
    exact law_cmp rfl hR
set_option maxRecDepth 40000 in
set_option maxHeartbeats 4000000 in
theorem law_c15 (hN : N ≤ 3072) (hi : i + 5 < N) (hX : ∀ j, in32 (X j)) (hI : Inv U) : ∃ U2, Inv U2 ∧ ∀ R, EvK N X (2048, 0, 1119, Lw i, [], (am_sh, am_mm U2)) R → EvK N X (2048, 0, 669, Lw i, [], (am_sh, am_mm U)) R := by
  obtain ⟨r, U1, U2, h1, h2, h3⟩ := call_housed (N := N) (X := X) (d := 1955) hI 
  refine ⟨U2, h3, fun R hR => ?_⟩
  refine cn_seg (pc' := 670) (L' := Lw i) (st' := [.inr (.inr 1)]) 1 (fun _ _ => rfl) ?_
  refine ev_cal (d := 2048) (mi := 0) (pc := 673) (L := Lw i) (rest := []) (fun k => rfl) h1 ?_
  show EvK N X (2048, 0, 673, Lw i, [.inl r], (am_sh, am_mm U1)) R
  refine cn_seg (pc' := 674) (L' := Lw i) (st' := [.inr (.inr 86), .inl r]) 1 (fun _ _ => rfl) ?_
  refine ev_cal (d := 2048) (mi := 0) (pc := 677) (L := Lw i) (rest := [.inl r]) (fun k => rfl) h2 ?_
  show EvK N X (2048, 0, 677, Lw i, [.inl r, .inl r], (am_sh, am_mm U2)) R
  exact law_cmp rfl hR
set_option maxRecDepth 40000 in
set_option maxHeartbeats 4000000 in
theorem law_c16 (hN : N ≤ 3072) (hi : i + 5 < N) (hX : ∀ j, in32 (X j)) (hI : Inv U) : ∃ U2, Inv U2 ∧ ∀ R, EvK N X (2048, 0, 1119, Lw i, [], (am_sh, am_mm U2)) R → EvK N X (2048, 0, 682, Lw i, [], (am_sh, am_mm U)) R := by
  obtain ⟨r, U1, U2, h1, h2, h3⟩ := call_years (N := N) (X := X) (d := 1955) hI (X (i + 1))
  refine ⟨U2, h3, fun R hR => ?_⟩
  refine cn_seg (pc' := 683) (L' := Lw i) (st' := [.inr (.inr 1)]) 1 (fun _ _ => rfl) ?_
  refine law_arg (k := 1) (pt := 688) hN (by omega) rfl (fun _ _ => rfl) rfl rfl ?_
  refine ev_cal (d := 2048) (mi := 0) (pc := 691) (L := Lw i) (rest := []) (fun k => rfl) h1 ?_
  show EvK N X (2048, 0, 691, Lw i, [.inl r], (am_sh, am_mm U1)) R
  refine cn_seg (pc' := 692) (L' := Lw i) (st' := [.inr (.inr 86), .inl r]) 1 (fun _ _ => rfl) ?_
  refine law_arg (k := 1) (pt := 697) hN (by omega) rfl (fun _ _ => rfl) rfl rfl ?_
  refine ev_cal (d := 2048) (mi := 0) (pc := 700) (L := Lw i) (rest := [.inl r]) (fun k => rfl) h2 ?_
  show EvK N X (2048, 0, 700, Lw i, [.inl r, .inl r], (am_sh, am_mm U2)) R
  exact law_cmp rfl hR
set_option maxRecDepth 40000 in
set_option maxHeartbeats 4000000 in
theorem law_c17 (hN : N ≤ 3072) (hi : i + 5 < N) (hX : ∀ j, in32 (X j)) (hI : Inv U) : ∃ U2, Inv U2 ∧ ∀ R, EvK N X (2048, 0, 1119, Lw i, [], (am_sh, am_mm U2)) R → EvK N X (2048, 0, 705, Lw i, [], (am_sh, am_mm U)) R := by
  obtain ⟨r, U1, U2, h1, h2, h3⟩ := call_undo (N := N) (X := X) (d := 1955) hI 
  refine ⟨U2, h3, fun R hR => ?_⟩
  refine cn_seg (pc' := 706) (L' := Lw i) (st' := [.inr (.inr 1)]) 1 (fun _ _ => rfl) ?_
  refine ev_cal (d := 2048) (mi := 0) (pc := 709) (L := Lw i) (rest := []) (fun k => rfl) h1 ?_
  show EvK N X (2048, 0, 709, Lw i, [.inl r], (am_sh, am_mm U1)) R
  refine cn_seg (pc' := 710) (L' := Lw i) (st' := [.inr (.inr 86), .inl r]) 1 (fun _ _ => rfl) ?_
  refine ev_cal (d := 2048) (mi := 0) (pc := 713) (L := Lw i) (rest := [.inl r]) (fun k => rfl) h2 ?_
  show EvK N X (2048, 0, 713, Lw i, [.inl r, .inl r], (am_sh, am_mm U2)) R
  exact law_cmp rfl hR
set_option maxRecDepth 40000 in
set_option maxHeartbeats 4000000 in
theorem law_c18 (hN : N ≤ 3072) (hi : i + 5 < N) (hX : ∀ j, in32 (X j)) (hI : Inv U) : ∃ U2, Inv U2 ∧ ∀ R, EvK N X (2048, 0, 1119, Lw i, [], (am_sh, am_mm U2)) R → EvK N X (2048, 0, 718, Lw i, [], (am_sh, am_mm U)) R := by
  obtain ⟨r, U1, U2, h1, h2, h3⟩ := call_seed (N := N) (X := X) (d := 1955) hI (X (i + 1)) (hX _)
  refine ⟨U2, h3, fun R hR => ?_⟩
  refine cn_seg (pc' := 719) (L' := Lw i) (st' := [.inr (.inr 1)]) 1 (fun _ _ => rfl) ?_
  refine law_arg (k := 1) (pt := 724) hN (by omega) rfl (fun _ _ => rfl) rfl rfl ?_
  refine ev_cal (d := 2048) (mi := 0) (pc := 727) (L := Lw i) (rest := []) (fun k => rfl) h1 ?_
  show EvK N X (2048, 0, 727, Lw i, [.inl r], (am_sh, am_mm U1)) R
  refine cn_seg (pc' := 728) (L' := Lw i) (st' := [.inr (.inr 86), .inl r]) 1 (fun _ _ => rfl) ?_
  refine law_arg (k := 1) (pt := 733) hN (by omega) rfl (fun _ _ => rfl) rfl rfl ?_
  refine ev_cal (d := 2048) (mi := 0) (pc := 736) (L := Lw i) (rest := [.inl r]) (fun k => rfl) h2 ?_
  show EvK N X (2048, 0, 736, Lw i, [.inl r, .inl r], (am_sh, am_mm U2)) R
  exact law_cmp rfl hR
set_option maxRecDepth 40000 in
set_option maxHeartbeats 4000000 in
theorem law_c19 (hN : N ≤ 3072) (hi : i + 5 < N) (hX : ∀ j, in32 (X j)) (hI : Inv U) : ∃ U2, Inv U2 ∧ ∀ R, EvK N X (2048, 0, 1119, Lw i, [], (am_sh, am_mm U2)) R → EvK N X (2048, 0, 741, Lw i, [], (am_sh, am_mm U)) R := by
  obtain ⟨r, U1, U2, h1, h2, h3⟩ := call_weds (N := N) (X := X) (d := 1955) hI (X (i + 1)) (hX _)
  refine ⟨U2, h3, fun R hR => ?_⟩
  refine cn_seg (pc' := 742) (L' := Lw i) (st' := [.inr (.inr 1)]) 1 (fun _ _ => rfl) ?_
  refine law_arg (k := 1) (pt := 747) hN (by omega) rfl (fun _ _ => rfl) rfl rfl ?_
  refine ev_cal (d := 2048) (mi := 0) (pc := 750) (L := Lw i) (rest := []) (fun k => rfl) h1 ?_
  show EvK N X (2048, 0, 750, Lw i, [.inl r], (am_sh, am_mm U1)) R
  refine cn_seg (pc' := 751) (L' := Lw i) (st' := [.inr (.inr 86), .inl r]) 1 (fun _ _ => rfl) ?_
  refine law_arg (k := 1) (pt := 756) hN (by omega) rfl (fun _ _ => rfl) rfl rfl ?_
  refine ev_cal (d := 2048) (mi := 0) (pc := 759) (L := Lw i) (rest := [.inl r]) (fun k => rfl) h2 ?_
  show EvK N X (2048, 0, 759, Lw i, [.inl r, .inl r], (am_sh, am_mm U2)) R
  exact law_cmp rfl hR
set_option maxRecDepth 40000 in
set_option maxHeartbeats 4000000 in
theorem law_c20 (hN : N ≤ 3072) (hi : i + 5 < N) (hX : ∀ j, in32 (X j)) (hI : Inv U) : ∃ U2, Inv U2 ∧ ∀ R, EvK N X (2048, 0, 1119, Lw i, [], (am_sh, am_mm U2)) R → EvK N X (2048, 0, 764, Lw i, [], (am_sh, am_mm U)) R := by
  obtain ⟨r, U1, U2, h1, h2, h3⟩ := call_parts (N := N) (X := X) (d := 1955) hI (X (i + 1)) (X (i + 2))
  refine ⟨U2, h3, fun R hR => ?_⟩
  refine cn_seg (pc' := 765) (L' := Lw i) (st' := [.inr (.inr 1)]) 1 (fun _ _ => rfl) ?_
  refine law_arg (k := 1) (pt := 770) hN (by omega) rfl (fun _ _ => rfl) rfl rfl ?_
  refine law_arg (k := 2) (pt := 775) hN (by omega) rfl (fun _ _ => rfl) rfl rfl ?_
  refine ev_cal (d := 2048) (mi := 0) (pc := 778) (L := Lw i) (rest := []) (fun k => rfl) h1 ?_
  show EvK N X (2048, 0, 778, Lw i, [.inl r], (am_sh, am_mm U1)) R
  refine cn_seg (pc' := 779) (L' := Lw i) (st' := [.inr (.inr 86), .inl r]) 1 (fun _ _ => rfl) ?_
  refine law_arg (k := 1) (pt := 784) hN (by omega) rfl (fun _ _ => rfl) rfl rfl ?_
  refine law_arg (k := 2) (pt := 789) hN (by omega) rfl (fun _ _ => rfl) rfl rfl ?_
  refine ev_cal (d := 2048) (mi := 0) (pc := 792) (L := Lw i) (rest := [.inl r]) (fun k => rfl) h2 ?_
  show EvK N X (2048, 0, 792, Lw i, [.inl r, .inl r], (am_sh, am_mm U2)) R
  exact law_cmp rfl hR
set_option maxRecDepth 40000 in
set_option maxHeartbeats 4000000 in
theorem law_c21 (hN : N ≤ 3072) (hi : i + 5 < N) (hX : ∀ j, in32 (X j)) (hI : Inv U) : ∃ U2, Inv U2 ∧ ∀ R, EvK N X (2048, 0, 1119, Lw i, [], (am_sh, am_mm U2)) R → EvK N X (2048, 0, 797, Lw i, [], (am_sh, am_mm U)) R := by
  obtain ⟨r, U1, U2, h1, h2, h3⟩ := call_friends (N := N) (X := X) (d := 1955) hI (X (i + 1)) (hX _)
  refine ⟨U2, h3, fun R hR => ?_⟩
  refine cn_seg (pc' := 798) (L' := Lw i) (st' := [.inr (.inr 1)]) 1 (fun _ _ => rfl) ?_
  refine law_arg (k := 1) (pt := 803) hN (by omega) rfl (fun _ _ => rfl) rfl rfl ?_
  refine ev_cal (d := 2048) (mi := 0) (pc := 806) (L := Lw i) (rest := []) (fun k => rfl) h1 ?_
  show EvK N X (2048, 0, 806, Lw i, [.inl r], (am_sh, am_mm U1)) R
  refine cn_seg (pc' := 807) (L' := Lw i) (st' := [.inr (.inr 86), .inl r]) 1 (fun _ _ => rfl) ?_
  refine law_arg (k := 1) (pt := 812) hN (by omega) rfl (fun _ _ => rfl) rfl rfl ?_
  refine ev_cal (d := 2048) (mi := 0) (pc := 815) (L := Lw i) (rest := [.inl r]) (fun k => rfl) h2 ?_
  show EvK N X (2048, 0, 815, Lw i, [.inl r, .inl r], (am_sh, am_mm U2)) R
  exact law_cmp rfl hR
set_option maxRecDepth 40000 in
set_option maxHeartbeats 4000000 in
theorem law_c22 (hN : N ≤ 3072) (hi : i + 5 < N) (hX : ∀ j, in32 (X j)) (hI : Inv U) : ∃ U2, Inv U2 ∧ ∀ R, EvK N X (2048, 0, 1119, Lw i, [], (am_sh, am_mm U2)) R → EvK N X (2048, 0, 820, Lw i, [], (am_sh, am_mm U)) R := by
  obtain ⟨r, U1, U2, h1, h2, h3⟩ := call_factor (N := N) (X := X) (d := 1955) hI (X (i + 1)) (X (i + 2))
  refine ⟨U2, h3, fun R hR => ?_⟩
  refine cn_seg (pc' := 821) (L' := Lw i) (st' := [.inr (.inr 1)]) 1 (fun _ _ => rfl) ?_
  refine law_arg (k := 1) (pt := 826) hN (by omega) rfl (fun _ _ => rfl) rfl rfl ?_
  refine law_arg (k := 2) (pt := 831) hN (by omega) rfl (fun _ _ => rfl) rfl rfl ?_
  refine ev_cal (d := 2048) (mi := 0) (pc := 834) (L := Lw i) (rest := []) (fun k => rfl) h1 ?_
  show EvK N X (2048, 0, 834, Lw i, [.inl r], (am_sh, am_mm U1)) R
  refine cn_seg (pc' := 835) (L' := Lw i) (st' := [.inr (.inr 86), .inl r]) 1 (fun _ _ => rfl) ?_
  refine law_arg (k := 1) (pt := 840) hN (by omega) rfl (fun _ _ => rfl) rfl rfl ?_
  refine law_arg (k := 2) (pt := 845) hN (by omega) rfl (fun _ _ => rfl) rfl rfl ?_
  refine ev_cal (d := 2048) (mi := 0) (pc := 848) (L := Lw i) (rest := [.inl r]) (fun k => rfl) h2 ?_
  show EvK N X (2048, 0, 848, Lw i, [.inl r, .inl r], (am_sh, am_mm U2)) R
  exact law_cmp rfl hR
set_option maxRecDepth 40000 in
set_option maxHeartbeats 4000000 in
theorem law_c23 (hN : N ≤ 3072) (hi : i + 5 < N) (hX : ∀ j, in32 (X j)) (hI : Inv U) : ∃ U2, Inv U2 ∧ ∀ R, EvK N X (2048, 0, 1119, Lw i, [], (am_sh, am_mm U2)) R → EvK N X (2048, 0, 853, Lw i, [], (am_sh, am_mm U)) R := by
  obtain ⟨r, U1, U2, h1, h2, h3⟩ := call_quarrel (N := N) (X := X) (d := 1955) hI (X (i + 1)) (hX _)
  refine ⟨U2, h3, fun R hR => ?_⟩
  refine cn_seg (pc' := 854) (L' := Lw i) (st' := [.inr (.inr 1)]) 1 (fun _ _ => rfl) ?_
  refine law_arg (k := 1) (pt := 859) hN (by omega) rfl (fun _ _ => rfl) rfl rfl ?_
  refine ev_cal (d := 2048) (mi := 0) (pc := 862) (L := Lw i) (rest := []) (fun k => rfl) h1 ?_
  show EvK N X (2048, 0, 862, Lw i, [.inl r], (am_sh, am_mm U1)) R
  refine cn_seg (pc' := 863) (L' := Lw i) (st' := [.inr (.inr 86), .inl r]) 1 (fun _ _ => rfl) ?_
  refine law_arg (k := 1) (pt := 868) hN (by omega) rfl (fun _ _ => rfl) rfl rfl ?_
  refine ev_cal (d := 2048) (mi := 0) (pc := 871) (L := Lw i) (rest := [.inl r]) (fun k => rfl) h2 ?_
  show EvK N X (2048, 0, 871, Lw i, [.inl r, .inl r], (am_sh, am_mm U2)) R
  exact law_cmp rfl hR
set_option maxRecDepth 40000 in
set_option maxHeartbeats 4000000 in
theorem law_c24 (hN : N ≤ 3072) (hi : i + 5 < N) (hX : ∀ j, in32 (X j)) (hI : Inv U) : ∃ U2, Inv U2 ∧ ∀ R, EvK N X (2048, 0, 1119, Lw i, [], (am_sh, am_mm U2)) R → EvK N X (2048, 0, 876, Lw i, [], (am_sh, am_mm U)) R := by
  obtain ⟨r, U1, U2, h1, h2, h3⟩ := call_twins (N := N) (X := X) (d := 1955) hI (X (i + 1)) (X (i + 2))
  refine ⟨U2, h3, fun R hR => ?_⟩
  refine cn_seg (pc' := 877) (L' := Lw i) (st' := [.inr (.inr 1)]) 1 (fun _ _ => rfl) ?_
  refine law_arg (k := 1) (pt := 882) hN (by omega) rfl (fun _ _ => rfl) rfl rfl ?_
  refine law_arg (k := 2) (pt := 887) hN (by omega) rfl (fun _ _ => rfl) rfl rfl ?_
  refine ev_cal (d := 2048) (mi := 0) (pc := 890) (L := Lw i) (rest := []) (fun k => rfl) h1 ?_
  show EvK N X (2048, 0, 890, Lw i, [.inl r], (am_sh, am_mm U1)) R
  refine cn_seg (pc' := 891) (L' := Lw i) (st' := [.inr (.inr 86), .inl r]) 1 (fun _ _ => rfl) ?_
  refine law_arg (k := 1) (pt := 896) hN (by omega) rfl (fun _ _ => rfl) rfl rfl ?_
  refine law_arg (k := 2) (pt := 901) hN (by omega) rfl (fun _ _ => rfl) rfl rfl ?_
  refine ev_cal (d := 2048) (mi := 0) (pc := 904) (L := Lw i) (rest := [.inl r]) (fun k => rfl) h2 ?_
  show EvK N X (2048, 0, 904, Lw i, [.inl r, .inl r], (am_sh, am_mm U2)) R
  exact law_cmp rfl hR
set_option maxRecDepth 40000 in
set_option maxHeartbeats 4000000 in
theorem law_c25 (hN : N ≤ 3072) (hi : i + 5 < N) (hX : ∀ j, in32 (X j)) (hI : Inv U) : ∃ U2, Inv U2 ∧ ∀ R, EvK N X (2048, 0, 1119, Lw i, [], (am_sh, am_mm U2)) R → EvK N X (2048, 0, 909, Lw i, [], (am_sh, am_mm U)) R := by
  obtain ⟨r, U1, U2, h1, h2, h3⟩ := call_sum (N := N) (X := X) (d := 1955) hI (X (i + 1)) (X (i + 2))
  refine ⟨U2, h3, fun R hR => ?_⟩
  refine cn_seg (pc' := 910) (L' := Lw i) (st' := [.inr (.inr 1)]) 1 (fun _ _ => rfl) ?_
  refine law_arg (k := 1) (pt := 915) hN (by omega) rfl (fun _ _ => rfl) rfl rfl ?_
  refine law_arg (k := 2) (pt := 920) hN (by omega) rfl (fun _ _ => rfl) rfl rfl ?_
  refine ev_cal (d := 2048) (mi := 0) (pc := 923) (L := Lw i) (rest := []) (fun k => rfl) h1 ?_
  show EvK N X (2048, 0, 923, Lw i, [.inl r], (am_sh, am_mm U1)) R
  refine cn_seg (pc' := 924) (L' := Lw i) (st' := [.inr (.inr 86), .inl r]) 1 (fun _ _ => rfl) ?_
  refine law_arg (k := 1) (pt := 929) hN (by omega) rfl (fun _ _ => rfl) rfl rfl ?_
  refine law_arg (k := 2) (pt := 934) hN (by omega) rfl (fun _ _ => rfl) rfl rfl ?_
  refine ev_cal (d := 2048) (mi := 0) (pc := 937) (L := Lw i) (rest := [.inl r]) (fun k => rfl) h2 ?_
  show EvK N X (2048, 0, 937, Lw i, [.inl r, .inl r], (am_sh, am_mm U2)) R
  exact law_cmp rfl hR
set_option maxRecDepth 40000 in
set_option maxHeartbeats 4000000 in
theorem law_c26 (hN : N ≤ 3072) (hi : i + 5 < N) (hX : ∀ j, in32 (X j)) (hI : Inv U) : ∃ U2, Inv U2 ∧ ∀ R, EvK N X (2048, 0, 1119, Lw i, [], (am_sh, am_mm U2)) R → EvK N X (2048, 0, 942, Lw i, [], (am_sh, am_mm U)) R := by
  obtain ⟨r, U1, U2, h1, h2, h3⟩ := call_rent (N := N) (X := X) (d := 1955) hI (X (i + 1)) (X (i + 2))
  refine ⟨U2, h3, fun R hR => ?_⟩
  refine cn_seg (pc' := 943) (L' := Lw i) (st' := [.inr (.inr 1)]) 1 (fun _ _ => rfl) ?_
  refine law_arg (k := 1) (pt := 948) hN (by omega) rfl (fun _ _ => rfl) rfl rfl ?_
  refine law_arg (k := 2) (pt := 953) hN (by omega) rfl (fun _ _ => rfl) rfl rfl ?_
  refine ev_cal (d := 2048) (mi := 0) (pc := 956) (L := Lw i) (rest := []) (fun k => rfl) h1 ?_
  show EvK N X (2048, 0, 956, Lw i, [.inl r], (am_sh, am_mm U1)) R
  refine cn_seg (pc' := 957) (L' := Lw i) (st' := [.inr (.inr 86), .inl r]) 1 (fun _ _ => rfl) ?_
  refine law_arg (k := 1) (pt := 962) hN (by omega) rfl (fun _ _ => rfl) rfl rfl ?_
  refine law_arg (k := 2) (pt := 967) hN (by omega) rfl (fun _ _ => rfl) rfl rfl ?_
  refine ev_cal (d := 2048) (mi := 0) (pc := 970) (L := Lw i) (rest := [.inl r]) (fun k => rfl) h2 ?_
  show EvK N X (2048, 0, 970, Lw i, [.inl r, .inl r], (am_sh, am_mm U2)) R
  exact law_cmp rfl hR
set_option maxRecDepth 40000 in
set_option maxHeartbeats 4000000 in
theorem law_c27 (hN : N ≤ 3072) (hi : i + 5 < N) (hX : ∀ j, in32 (X j)) (hI : Inv U) : ∃ U2, Inv U2 ∧ ∀ R, EvK N X (2048, 0, 1119, Lw i, [], (am_sh, am_mm U2)) R → EvK N X (2048, 0, 975, Lw i, [], (am_sh, am_mm U)) R := by
  obtain ⟨r, U1, U2, h1, h2, h3⟩ := call_net (N := N) (X := X) (d := 1955) hI (X (i + 1))
  refine ⟨U2, h3, fun R hR => ?_⟩
  refine cn_seg (pc' := 976) (L' := Lw i) (st' := [.inr (.inr 1)]) 1 (fun _ _ => rfl) ?_
  refine law_arg (k := 1) (pt := 981) hN (by omega) rfl (fun _ _ => rfl) rfl rfl ?_
  refine ev_cal (d := 2048) (mi := 0) (pc := 984) (L := Lw i) (rest := []) (fun k => rfl) h1 ?_
  show EvK N X (2048, 0, 984, Lw i, [.inl r], (am_sh, am_mm U1)) R
  refine cn_seg (pc' := 985) (L' := Lw i) (st' := [.inr (.inr 86), .inl r]) 1 (fun _ _ => rfl) ?_
  refine law_arg (k := 1) (pt := 990) hN (by omega) rfl (fun _ _ => rfl) rfl rfl ?_
  refine ev_cal (d := 2048) (mi := 0) (pc := 993) (L := Lw i) (rest := [.inl r]) (fun k => rfl) h2 ?_
  show EvK N X (2048, 0, 993, Lw i, [.inl r, .inl r], (am_sh, am_mm U2)) R
  exact law_cmp rfl hR
set_option maxRecDepth 40000 in
set_option maxHeartbeats 4000000 in
theorem law_c28 (hN : N ≤ 3072) (hi : i + 5 < N) (hX : ∀ j, in32 (X j)) (hI : Inv U) : ∃ U2, Inv U2 ∧ ∀ R, EvK N X (2048, 0, 1119, Lw i, [], (am_sh, am_mm U2)) R → EvK N X (2048, 0, 998, Lw i, [], (am_sh, am_mm U)) R := by
  obtain ⟨r, U1, U2, h1, h2, h3⟩ := call_struck (N := N) (X := X) (d := 1955) hI 
  refine ⟨U2, h3, fun R hR => ?_⟩
  refine cn_seg (pc' := 999) (L' := Lw i) (st' := [.inr (.inr 1)]) 1 (fun _ _ => rfl) ?_
  refine ev_cal (d := 2048) (mi := 0) (pc := 1002) (L := Lw i) (rest := []) (fun k => rfl) h1 ?_
  show EvK N X (2048, 0, 1002, Lw i, [.inl r], (am_sh, am_mm U1)) R
  refine cn_seg (pc' := 1003) (L' := Lw i) (st' := [.inr (.inr 86), .inl r]) 1 (fun _ _ => rfl) ?_
  refine ev_cal (d := 2048) (mi := 0) (pc := 1006) (L := Lw i) (rest := [.inl r]) (fun k => rfl) h2 ?_
  show EvK N X (2048, 0, 1006, Lw i, [.inl r, .inl r], (am_sh, am_mm U2)) R
  exact law_cmp rfl hR
set_option maxRecDepth 40000 in
set_option maxHeartbeats 4000000 in
theorem law_c29 (hN : N ≤ 3072) (hi : i + 5 < N) (hX : ∀ j, in32 (X j)) (hI : Inv U) : ∃ U2, Inv U2 ∧ ∀ R, EvK N X (2048, 0, 1119, Lw i, [], (am_sh, am_mm U2)) R → EvK N X (2048, 0, 1011, Lw i, [], (am_sh, am_mm U)) R := by
  obtain ⟨r, U1, U2, h1, h2, h3⟩ := call_tell (N := N) (X := X) (d := 1955) hI 
  refine ⟨U2, h3, fun R hR => ?_⟩
  refine cn_seg (pc' := 1012) (L' := Lw i) (st' := [.inr (.inr 1)]) 1 (fun _ _ => rfl) ?_
  refine ev_cal (d := 2048) (mi := 0) (pc := 1015) (L := Lw i) (rest := []) (fun k => rfl) h1 ?_
  show EvK N X (2048, 0, 1015, Lw i, [.inl r], (am_sh, am_mm U1)) R
  refine cn_seg (pc' := 1016) (L' := Lw i) (st' := [.inr (.inr 86), .inl r]) 1 (fun _ _ => rfl) ?_
  refine ev_cal (d := 2048) (mi := 0) (pc := 1019) (L := Lw i) (rest := [.inl r]) (fun k => rfl) h2 ?_
  show EvK N X (2048, 0, 1019, Lw i, [.inl r, .inl r], (am_sh, am_mm U2)) R
  exact law_cmp rfl hR
set_option maxRecDepth 40000 in
set_option maxHeartbeats 4000000 in
theorem law_c30 (hN : N ≤ 3072) (hi : i + 5 < N) (hX : ∀ j, in32 (X j)) (hI : Inv U) : ∃ U2, Inv U2 ∧ ∀ R, EvK N X (2048, 0, 1119, Lw i, [], (am_sh, am_mm U2)) R → EvK N X (2048, 0, 1024, Lw i, [], (am_sh, am_mm U)) R := by
  obtain ⟨r, U1, U2, h1, h2, h3⟩ := call_hidden (N := N) (X := X) (d := 1955) hI (X (i + 1))
  refine ⟨U2, h3, fun R hR => ?_⟩
  refine cn_seg (pc' := 1025) (L' := Lw i) (st' := [.inr (.inr 1)]) 1 (fun _ _ => rfl) ?_
  refine law_arg (k := 1) (pt := 1030) hN (by omega) rfl (fun _ _ => rfl) rfl rfl ?_
  refine ev_cal (d := 2048) (mi := 0) (pc := 1033) (L := Lw i) (rest := []) (fun k => rfl) h1 ?_
  show EvK N X (2048, 0, 1033, Lw i, [.inl r], (am_sh, am_mm U1)) R
  refine cn_seg (pc' := 1034) (L' := Lw i) (st' := [.inr (.inr 86), .inl r]) 1 (fun _ _ => rfl) ?_
  refine law_arg (k := 1) (pt := 1039) hN (by omega) rfl (fun _ _ => rfl) rfl rfl ?_
  refine ev_cal (d := 2048) (mi := 0) (pc := 1042) (L := Lw i) (rest := [.inl r]) (fun k => rfl) h2 ?_
  show EvK N X (2048, 0, 1042, Lw i, [.inl r, .inl r], (am_sh, am_mm U2)) R
  exact law_cmp rfl hR
set_option maxRecDepth 40000 in
set_option maxHeartbeats 4000000 in
theorem law_c31 (hN : N ≤ 3072) (hi : i + 5 < N) (hX : ∀ j, in32 (X j)) (hI : Inv U) : ∃ U2, Inv U2 ∧ ∀ R, EvK N X (2048, 0, 1119, Lw i, [], (am_sh, am_mm U2)) R → EvK N X (2048, 0, 1047, Lw i, [], (am_sh, am_mm U)) R := by
  obtain ⟨r, U1, U2, h1, h2, h3⟩ := call_image (N := N) (X := X) (d := 1955) hI 
  refine ⟨U2, h3, fun R hR => ?_⟩
  refine cn_seg (pc' := 1048) (L' := Lw i) (st' := [.inr (.inr 1)]) 1 (fun _ _ => rfl) ?_
  refine ev_cal (d := 2048) (mi := 0) (pc := 1051) (L := Lw i) (rest := []) (fun k => rfl) h1 ?_
  show EvK N X (2048, 0, 1051, Lw i, [.inl r], (am_sh, am_mm U1)) R
  refine cn_seg (pc' := 1052) (L' := Lw i) (st' := [.inr (.inr 86), .inl r]) 1 (fun _ _ => rfl) ?_
  refine ev_cal (d := 2048) (mi := 0) (pc := 1055) (L := Lw i) (rest := [.inl r]) (fun k => rfl) h2 ?_
  show EvK N X (2048, 0, 1055, Lw i, [.inl r, .inl r], (am_sh, am_mm U2)) R
  exact law_cmp rfl hR
set_option maxRecDepth 40000 in
set_option maxHeartbeats 4000000 in
theorem law_c32 (hN : N ≤ 3072) (hi : i + 5 < N) (hX : ∀ j, in32 (X j)) (hI : Inv U) : ∃ U2, Inv U2 ∧ ∀ R, EvK N X (2048, 0, 1119, Lw i, [], (am_sh, am_mm U2)) R → EvK N X (2048, 0, 1060, Lw i, [], (am_sh, am_mm U)) R := by
  obtain ⟨r, U1, U2, h1, h2, h3⟩ := call_octet (N := N) (X := X) (d := 1955) hI (X (i + 1))
  refine ⟨U2, h3, fun R hR => ?_⟩
  refine cn_seg (pc' := 1061) (L' := Lw i) (st' := [.inr (.inr 1)]) 1 (fun _ _ => rfl) ?_
  refine law_arg (k := 1) (pt := 1066) hN (by omega) rfl (fun _ _ => rfl) rfl rfl ?_
  refine ev_cal (d := 2048) (mi := 0) (pc := 1069) (L := Lw i) (rest := []) (fun k => rfl) h1 ?_
  show EvK N X (2048, 0, 1069, Lw i, [.inl r], (am_sh, am_mm U1)) R
  refine cn_seg (pc' := 1070) (L' := Lw i) (st' := [.inr (.inr 86), .inl r]) 1 (fun _ _ => rfl) ?_
  refine law_arg (k := 1) (pt := 1075) hN (by omega) rfl (fun _ _ => rfl) rfl rfl ?_
  refine ev_cal (d := 2048) (mi := 0) (pc := 1078) (L := Lw i) (rest := [.inl r]) (fun k => rfl) h2 ?_
  show EvK N X (2048, 0, 1078, Lw i, [.inl r, .inl r], (am_sh, am_mm U2)) R
  exact law_cmp rfl hR
set_option maxRecDepth 40000 in
set_option maxHeartbeats 4000000 in
theorem law_c33 (hN : N ≤ 3072) (hi : i + 5 < N) (hX : ∀ j, in32 (X j)) (hI : Inv U) : ∃ U2, Inv U2 ∧ ∀ R, EvK N X (2048, 0, 1119, Lw i, [], (am_sh, am_mm U2)) R → EvK N X (2048, 0, 1083, Lw i, [], (am_sh, am_mm U)) R := by
  obtain ⟨r, U1, U2, h1, h2, h3⟩ := call_on (N := N) (X := X) (d := 1955) hI 
  refine ⟨U2, h3, fun R hR => ?_⟩
  refine cn_seg (pc' := 1084) (L' := Lw i) (st' := [.inr (.inr 1)]) 1 (fun _ _ => rfl) ?_
  refine ev_cal (d := 2048) (mi := 0) (pc := 1087) (L := Lw i) (rest := []) (fun k => rfl) h1 ?_
  show EvK N X (2048, 0, 1087, Lw i, [.inl r], (am_sh, am_mm U1)) R
  refine cn_seg (pc' := 1088) (L' := Lw i) (st' := [.inr (.inr 86), .inl r]) 1 (fun _ _ => rfl) ?_
  refine ev_cal (d := 2048) (mi := 0) (pc := 1091) (L := Lw i) (rest := [.inl r]) (fun k => rfl) h2 ?_
  show EvK N X (2048, 0, 1091, Lw i, [.inl r, .inl r], (am_sh, am_mm U2)) R
  exact law_cmp rfl hR
set_option maxRecDepth 40000 in
set_option maxHeartbeats 4000000 in
theorem law_c34 (hN : N ≤ 3072) (hi : i + 5 < N) (hX : ∀ j, in32 (X j)) (hI : Inv U) : ∃ U2, Inv U2 ∧ ∀ R, EvK N X (2048, 0, 1119, Lw i, [], (am_sh, am_mm U2)) R → EvK N X (2048, 0, 1096, Lw i, [], (am_sh, am_mm U)) R := by
  obtain ⟨r, U1, U2, h1, h2, h3⟩ := call_status (N := N) (X := X) (d := 1955) hI (X (i + 1))
  refine ⟨U2, h3, fun R hR => ?_⟩
  refine cn_seg (pc' := 1097) (L' := Lw i) (st' := [.inr (.inr 1)]) 1 (fun _ _ => rfl) ?_
  refine law_arg (k := 1) (pt := 1102) hN (by omega) rfl (fun _ _ => rfl) rfl rfl ?_
  refine ev_cal (d := 2048) (mi := 0) (pc := 1105) (L := Lw i) (rest := []) (fun k => rfl) h1 ?_
  show EvK N X (2048, 0, 1105, Lw i, [.inl r], (am_sh, am_mm U1)) R
  refine cn_seg (pc' := 1106) (L' := Lw i) (st' := [.inr (.inr 86), .inl r]) 1 (fun _ _ => rfl) ?_
  refine law_arg (k := 1) (pt := 1111) hN (by omega) rfl (fun _ _ => rfl) rfl rfl ?_
  refine ev_cal (d := 2048) (mi := 0) (pc := 1114) (L := Lw i) (rest := [.inl r]) (fun k => rfl) h2 ?_
  show EvK N X (2048, 0, 1114, Lw i, [.inl r, .inl r], (am_sh, am_mm U2)) R
  exact law_cmp rfl hR
end LWC
