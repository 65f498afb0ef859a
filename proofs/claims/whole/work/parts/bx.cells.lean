/-! many new cells at once: as the world has them -/
theorem am_arrV {c : ClassId} {N : Nat} {f g : Nat → Value} (h : ∀ j, j < N → f j = g j) : arrV c N f = arrV c N g := by
  have e : (fun j : Fin N => f j.val) = (fun j : Fin N => g j.val) := funext fun j => h j.val j.isLt
  unfold arrV
  rw [e]
section MNB
variable {base : Nat} {ad : Int → Nat} {cA : Nat → ClassId} {cl : List vw_C} {tg : Nat → Nat → Nat} {D : va_G} {M : am_M} {H : Heap}
theorem am_P_new {so n : Nat} {f : Nat → Int} (hone : am_rl M.1.length) (hP : va_P D cl (am_ws base ad cA tg M) H) (he : va_at D cl (base + am_ix M.1.length, am_ent ad cA tg (so, n) f) H) : va_P D cl (am_ws base ad cA tg (am_new M so n f)) H := by
  rw [am_ws_new hone]
  exact hP.app (fun k x hx => by
    have h0 : k < 1 := (List.getElem?_eq_some_iff.mp hx).1
    rw [show k = 0 by omega] at hx
    cases hx
    exact he)
theorem am_P_news {n k : Nat} (hone : 31 ≤ M.1.length) (hk : k < 2147483648) (hP : va_P D cl (am_ws base ad cA tg M) H) (hO : am_okM cl tg M) (hrow : ∀ i, i < n → va_at D cl (base + am_ix M.1.length + i, am_ent ad cA tg (100, k) (fun _ => 0)) H) : ∀ i, i ≤ n → va_P D cl (am_ws base ad cA tg (am_news M 100 k i)) H ∧ am_okM cl tg (am_news M 100 k i) := by
  intro i
  induction i with
  | zero => intro _; exact ⟨hP, hO⟩
  | succ i ih =>
    intro hi
    obtain ⟨p1, p2⟩ := ih (by omega)
    have hl := (am_news_len hone 100 k i).1
    refine ⟨am_P_new (M := am_news M 100 k i) (am_rl_hi (by omega)) p1 ?_, am_okM_new (am_rl_hi (by omega)) p2 ⟨fun q => absurd q (by decide), fun _ => ⟨by decide, hk, fun j _ => am_oka_0 (by decide)⟩⟩⟩
    have e : base + am_ix (am_news M 100 k i).1.length = base + am_ix M.1.length + i := by
      rw [am_ix_hi hone, am_ix_hi (a := (am_news M 100 k i).1.length) (by omega)]
      omega
    rw [e]
    exact hrow i (by omega)
end MNB
