/-! fuel doesn't matter; runs to an end -/
section AMF
variable {cd : Nat → Nat → Option am_I} {rk : Nat → Nat} {kz : am_Z} {k k' : am_S → am_R}
theorem am_go_mono (h : ∀ σ r, k σ = some r → k' σ = some r) {d mi pc : Nat} {L : am_L} {M : am_M} {o : Option (List am_V)} {r} (hs : am_go k d mi pc L M o = some r) : am_go k' d mi pc L M o = some r := by
  cases o with
  | none => cases hs
  | some st => exact h _ _ hs
theorem am_goM_mono (h : ∀ σ r, k σ = some r → k' σ = some r) {d mi pc : Nat} {L : am_L} {o : Option (List am_V × am_M)} {r} (hs : am_goM k d mi pc L o = some r) : am_goM k' d mi pc L o = some r := by
  cases o with
  | none => cases hs
  | some q => exact h _ _ hs
theorem am_goL_mono (h : ∀ σ r, k σ = some r → k' σ = some r) {d mi pc : Nat} {M : am_M} {o : Option (am_L × List am_V)} {r} (hs : am_goL k d mi pc M o = some r) : am_goL k' d mi pc M o = some r := by
  cases o with
  | none => cases hs
  | some q => exact h _ _ hs
theorem am_goB_mono (h : ∀ σ r, k σ = some r → k' σ = some r) {d mi pc pt : Nat} {L : am_L} {M : am_M} {o : Option (Bool × List am_V)} {r} (hs : am_goB k d mi pc pt L M o = some r) : am_goB k' d mi pc pt L M o = some r := by
  cases o with
  | none => cases hs
  | some q =>
    obtain ⟨b, st⟩ := q
    cases b
    · exact h _ _ hs
    · exact h _ _ hs
theorem am_call_mono (h : ∀ σ r, k σ = some r → k' σ = some r) {d mi pc a : Nat} {c : Int} {L : am_L} {As rest : List am_V} {M : am_M} {r} (hs : am_call k d mi pc a c L As rest M = some r) : am_call k' d mi pc a c L As rest M = some r := by
  obtain ⟨r, M'⟩ := r
  obtain ⟨d', r1, M1, rfl, hcat, hAc, h1, h2⟩ := am_call_inv hs
  unfold am_call
  simp only
  rw [if_pos ⟨hcat, hAc⟩, h _ _ h1]
  exact h _ _ h2
set_option maxHeartbeats 4000000 in
theorem am_step_mono (h : ∀ σ r, k σ = some r → k' σ = some r) : ∀ σ r, am_step cd rk kz k σ = some r → am_step cd rk kz k' σ = some r := by
  rintro ⟨d, mi, pc, L, st, M⟩ r hs
  unfold am_step at hs ⊢
  simp only at hs ⊢
  cases hcd : cd mi pc with
  | none => rw [hcd] at hs; cases hs
  | some ai =>
    obtain ⟨len, ins, a, b, c⟩ := ai
    rw [hcd] at hs
    simp only at hs ⊢
    cases ins
    case goto => exact h _ _ hs
    case ifCond => exact am_goB_mono h hs
    case if_icmp => exact am_goB_mono h hs
    case getfield => exact am_go_mono h hs
    case putfield => exact am_goM_mono h hs
    case iaload => exact am_go_mono h hs
    case laload => exact am_go_mono h hs
    case baload => exact am_go_mono h hs
    case aaload => exact am_go_mono h hs
    case arraylength => exact am_go_mono h hs
    case iastore => exact am_goM_mono h hs
    case lastore => exact am_goM_mono h hs
    case bastore => exact am_goM_mono h hs
    case getstatic => exact h _ _ hs
    case new => exact h _ _ hs
    case newarray => exact am_goM_mono h hs
    case multianewarray => exact am_goM_mono h hs
    case invokestatic =>
      simp only at hs ⊢
      split at hs
      · rename_i ha; rw [if_pos ha]; exact am_goM_mono h hs
      · rename_i ha
        rw [if_neg ha]
        split at hs
        · rename_i hb; rw [if_pos hb]; exact am_go_mono h hs
        · rename_i hb
          rw [if_neg hb]
          split at hs
          · rename_i hc; rw [if_pos hc]; exact am_call_mono h hs
          · cases hs
    case invokevirtual =>
      simp only at hs ⊢
      split at hs
      · rename_i x rest hsd
        split at hs
        · rename_i so n f hce
          split at hs
          · rename_i hso; rw [if_pos hso]; exact am_call_mono h hs
          · cases hs
        · cases hs
      · cases hs
    case invokespecial =>
      simp only at hs ⊢
      split at hs
      · rename_i x rest hsd
        split at hs
        · rename_i ha
          rw [if_pos ha]
          split at hs
          · cases hs
          · split at hs
            · rename_i hq; rw [if_pos hq]; exact h _ _ hs
            · cases hs
        · rename_i ha
          rw [if_neg ha]
          split at hs
          · rename_i hq; rw [if_pos hq]; exact am_call_mono h hs
          · cases hs
      · cases hs
    case tableswitch =>
      simp only at hs ⊢
      split at hs
      · split at hs
        · exact h _ _ hs
        · cases hs
      · cases hs
    case lookupswitch =>
      simp only at hs ⊢
      split at hs
      · exact h _ _ hs
      · cases hs
    case ireturn => exact hs
    case lreturn => exact hs
    case return_ => exact hs
    all_goals exact am_goL_mono h hs
theorem am_exec_mono1 : ∀ n σ r, am_exec cd rk kz n σ = some r → am_exec cd rk kz (n + 1) σ = some r := by
  intro n
  induction n with
  | zero => intro σ r h; cases h
  | succ n ih => exact am_step_mono ih
theorem am_exec_mono {n m : Nat} (hnm : n ≤ m) {σ : am_S} {r} (h : am_exec cd rk kz n σ = some r) : am_exec cd rk kz m σ = some r := by
  induction hnm with
  | refl => exact h
  | step _ ih => exact am_exec_mono1 _ _ _ ih
theorem am_stepN_exec : ∀ j n, am_exec cd rk kz (n + j) = am_stepN cd rk kz (am_exec cd rk kz n) j := by
  intro j
  induction j with
  | zero => intro n; rfl
  | succ j ih => intro n; show am_step cd rk kz (am_exec cd rk kz (n + j)) = am_step cd rk kz (am_stepN cd rk kz (am_exec cd rk kz n) j); rw [ih n]
end AMF
/-- the program comes from a state to an end -/
def Ev (kz : am_Z) (σ : am_S) (r : Option am_V × am_M) : Prop := ∃ n, am_exec am_cd am_rk kz n σ = some r
section AMG
variable {kz : am_Z} {σ σ1 σ2 : am_S} {r : Option am_V × am_M}
theorem ev_seg (j : Nat) (h : ∀ k : am_S → am_R, am_stepN am_cd am_rk kz k j σ = k σ1) (h1 : Ev kz σ1 r) : Ev kz σ r := by
  obtain ⟨n, hn⟩ := h1
  exact ⟨n + j, by rw [am_stepN_exec, h]; exact hn⟩
theorem ev_br (j : Nat) {P : Prop} [Decidable P] (h : ∀ k : am_S → am_R, am_stepN am_cd am_rk kz k j σ = bif decide P then k σ1 else k σ2) (h1 : P → Ev kz σ1 r) (h2 : ¬ P → Ev kz σ2 r) : Ev kz σ r := by
  by_cases hp : P
  · obtain ⟨n, hn⟩ := h1 hp
    exact ⟨n + j, by rw [am_stepN_exec, h]; simp only [hp, decide_true, cond_true]; exact hn⟩
  · obtain ⟨n, hn⟩ := h2 hp
    exact ⟨n + j, by rw [am_stepN_exec, h]; simp only [hp, decide_false, cond_false]; exact hn⟩
theorem ev_end (j : Nat) (h : ∀ k : am_S → am_R, am_stepN am_cd am_rk kz k j σ = some r) : Ev kz σ r := ⟨0 + j, by rw [am_stepN_exec, h]⟩
/-- a call: what it begins, and what goes on behind it -/
theorem ev_call {σc : am_S} {q : Option am_V × am_M} {next : Option am_V × am_M → am_S} (h : ∀ k : am_S → am_R, am_step am_cd am_rk kz k σ = (match k σc with | some q => k (next q) | none => none)) (h1 : Ev kz σc q) (h2 : Ev kz (next q) r) : Ev kz σ r := by
  obtain ⟨n1, hn1⟩ := h1
  obtain ⟨n2, hn2⟩ := h2
  refine ⟨max n1 n2 + 1, ?_⟩
  show am_step am_cd am_rk kz (am_exec am_cd am_rk kz (max n1 n2)) σ = some r
  rw [h, am_exec_mono (Nat.le_max_left n1 n2) hn1]
  exact am_exec_mono (Nat.le_max_right n1 n2) hn2
end AMG
