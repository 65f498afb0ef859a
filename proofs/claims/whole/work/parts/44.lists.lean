/-! rows of those that have a property, in order -/
def fl (p : Nat → Bool) (n : Nat) : List Nat := (List.range n).filter p
theorem fl_succ (p : Nat → Bool) (n : Nat) : fl p (n + 1) = fl p n ++ (if p n then [n] else []) := by
  unfold fl
  rw [List.range_succ, List.filter_append]
  congr 1
  cases h : p n <;> simp [h]
theorem fl_len (p : Nat → Bool) : ∀ n, (fl p n).length = fb_ct p n
  | 0 => rfl
  | n + 1 => by
    rw [fl_succ, List.length_append, fl_len p n, fb_ct_succ]
    split <;> simp
theorem fl_cong {p q : Nat → Bool} {n : Nat} (h : ∀ i, i < n → p i = q i) : fl p n = fl q n := by
  unfold fl
  exact List.filter_congr (fun i hi => h i (List.mem_range.mp hi))
theorem fl_cut {p : Nat → Bool} {m : Nat} : ∀ {n : Nat}, m ≤ n → (∀ i, m ≤ i → i < n → p i = false) → fl p n = fl p m
  | 0, h, _ => by rw [show m = 0 from by omega]
  | n + 1, h, h2 => by
    by_cases e : m = n + 1
    · rw [e]
    · rw [fl_succ, h2 n (by omega) (by omega), fl_cut (n := n) (by omega) (fun i a b => h2 i a (by omega))]; simp
theorem fl_nil {p : Nat → Bool} {n : Nat} (h : ∀ i, i < n → p i = false) : fl p n = [] := by
  have := fl_cut (m := 0) (p := p) (n := n) (Nat.zero_le _) (fun i _ b => h i b)
  rw [this]; rfl
theorem fl_get {p : Nat → Bool} {k : Nat} : ∀ {n : Nat}, k < fb_ct p n → ∃ i, i < n ∧ p i = true ∧ fb_ct p i = k ∧ (fl p n)[k]? = some i
  | 0, h => absurd h (Nat.not_lt_zero _)
  | n + 1, h => by
    rw [fb_ct_succ] at h
    rw [fl_succ]
    by_cases c : k < fb_ct p n
    · obtain ⟨i, a1, a2, a3, a4⟩ := fl_get c
      refine ⟨i, by omega, a2, a3, ?_⟩
      rw [List.getElem?_append_left (by rw [fl_len]; exact c)]; exact a4
    · cases hp : p n with
      | false => rw [hp] at h; simp at h; omega
      | true =>
        rw [hp] at h; simp at h
        refine ⟨n, by omega, hp, by omega, ?_⟩
        rw [List.getElem?_append_right (by rw [fl_len]; omega), fl_len, show k - fb_ct p n = 0 from by omega]
        simp
/-- the k-th one, by its row -/
theorem fl_kth {p : Nat → Bool} {k i n : Nat} (h : (fl p n)[k]? = some i) : kth p (k : Nat) n = i ∧ i < n ∧ p i = true := by
  have hk : k < fb_ct p n := by rw [← fl_len]; exact (List.getElem?_eq_some_iff.mp h).1
  obtain ⟨j, a1, a2, a3, a4⟩ := fl_get hk
  rw [h] at a4
  cases a4
  exact ⟨kth_in a2 (by omega) a1, a1, a2⟩
/-- rows one behind the other -/
def fr {α : Type} (f : Nat → List α) (n : Nat) : List α := (List.range n).flatMap f
theorem fr_succ {α : Type} (f : Nat → List α) (n : Nat) : fr f (n + 1) = fr f n ++ f n := by
  unfold fr
  rw [List.range_succ, List.flatMap_append]; simp
theorem fr_cong {α : Type} {f g : Nat → List α} : ∀ {n : Nat}, (∀ i, i < n → f i = g i) → fr f n = fr g n
  | 0, _ => rfl
  | n + 1, h => by rw [fr_succ, fr_succ, fr_cong (fun i hi => h i (by omega)), h n (by omega)]
theorem fr_nil {α : Type} {f : Nat → List α} : ∀ {n : Nat}, (∀ i, i < n → f i = []) → fr f n = []
  | 0, _ => rfl
  | n + 1, h => by rw [fr_succ, fr_nil (fun i hi => h i (by omega)), h n (by omega)]; rfl
theorem fr_cut {α : Type} {f : Nat → List α} {m : Nat} : ∀ {n : Nat}, m ≤ n → (∀ i, m ≤ i → i < n → f i = []) → fr f n = fr f m
  | 0, h, _ => by rw [show m = 0 from by omega]
  | n + 1, h, h2 => by
    by_cases e : m = n + 1
    · rw [e]
    · rw [fr_succ, h2 n (by omega) (by omega), fr_cut (n := n) (by omega) (fun i a b => h2 i a (by omega))]; simp
theorem fr_split {α : Type} (f : Nat → List α) (m : Nat) : ∀ n, fr f (m + n) = fr f m ++ fr (fun k => f (m + k)) n
  | 0 => by simp [fr]
  | n + 1 => by rw [← Nat.add_assoc, fr_succ, fr_split f m n, fr_succ, List.append_assoc]
/-- rows of rows -/
theorem fr_two {α : Type} (f : Nat → Nat → List α) (m : Nat) (hm : 0 < m) : ∀ n, fr (fun r => f (r / m) (r % m)) (m * n) = fr (fun l => fr (f l) m) n
  | 0 => by simp [fr]
  | n + 1 => by
    rw [Nat.mul_succ, fr_split, fr_two f m hm n, fr_succ]
    congr 1
    refine fr_cong (fun i hi => ?_)
    rw [show (m * n + i) / m = n from by rw [Nat.mul_add_div hm, Nat.div_eq_of_lt hi]; rfl, show (m * n + i) % m = i from by rw [Nat.mul_add_mod, Nat.mod_eq_of_lt hi]]
/-! the breaches of a town, told by laws, me, other (16: alone); w: with one alone (-1: all) -/
noncomputable def brB (U : am_U) (b nl n : Nat) (hm : Nat → Int) (w : Int) (l me j : Nat) : Bool := pd (brS U b nl n hm l me j ∧ (w = -1 ∨ w = (me : Nat) ∨ w = (j : Nat)))
noncomputable def brC (U : am_U) (b nl n : Nat) (hm : Nat → Int) (w : Int) (l me : Nat) : List (Nat × Nat × Nat) := (fl (brB U b nl n hm w l me) 17).map (fun j => (l, me, j))
noncomputable def brA (U : am_U) (b nl nw n : Nat) (hm : Nat → Int) (w : Int) : List (Nat × Nat × Nat) := fr (fun l => fr (brC U b nl n hm w l) n) nw
theorem brB_cg {U U' : am_U} (h : stq U U') (b nl n : Nat) (hm : Nat → Int) (w : Int) (l me : Nat) : brB U' b nl n hm w l me = brB U b nl n hm w l me := by
  funext j; unfold brB; rw [brS_cg h]
theorem brC_cg {U U' : am_U} (h : stq U U') (b nl n : Nat) (hm : Nat → Int) (w : Int) (l me : Nat) : brC U' b nl n hm w l me = brC U b nl n hm w l me := by
  unfold brC; rw [brB_cg h]
theorem brA_cg {U U' : am_U} (h : stq U U') (b nl nw n : Nat) (hm : Nat → Int) (w : Int) : brA U' b nl nw n hm w = brA U b nl nw n hm w := by
  unfold brA
  refine fr_cong (fun l _ => fr_cong (fun me _ => brC_cg h b nl n hm w l me))
