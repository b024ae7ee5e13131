/-! a frontier is empty where the view has no count above 0, and only there -/
theorem pq_sz_0 {L : Nat → Nat} : ∀ {e : Nat}, pt_sz L e = 0 → pt_low L e = 5 ∧ ∀ e', e' < e → 5 ≤ L e' := by
  intro e
  induction e with
  | zero => intro _; exact ⟨rfl, fun e' h => absurd h (by omega)⟩
  | succ e ih =>
    intro h
    by_cases z : L e < pt_low L e
    · rw [pt_sz_t z] at h; omega
    · rw [pt_sz_f z] at h
      obtain ⟨h1, h2⟩ := ih h
      rw [pt_low_f z]
      refine ⟨h1, fun e' he => ?_⟩
      by_cases x : e' = e
      · rw [x]; omega
      · exact h2 e' (by omega)
theorem pq_sz_z {L : Nat → Nat} (h : ∀ e, 5 ≤ L e) : ∀ e, pt_sz L e = 0 := by
  intro e
  induction e with
  | zero => rfl
  | succ e ih =>
    have h1 := pt_low_le L e
    have h2 := h e
    rw [pt_sz_f (by omega), ih]
theorem pq_front_pos {vi : Nat → Int32} {r p : Nat} (hp : p < 64) (h : 0 < vi (64 * r + p)) : 0 < pt_sz (pt_L vi r (p / 16)) 4 := by
  rcases Nat.eq_zero_or_pos (pt_sz (pt_L vi r (p / 16)) 4) with z | z
  · have k := (pq_sz_0 z).2 (p / 4 % 4) (by omega)
    have m : pt_M vi r (p / 16) (p / 4 % 4) (p % 4) := by
      refine ⟨p / 16, p % 4, by omega, by omega, ?_, ?_⟩
      · rw [pq_K00 _ (by omega)]; rfl
      · rw [show 16 * (p / 16) + 4 * (p / 4 % 4) + p % 4 = p by omega]; exact h
    exact absurd m ((pt_L_s vi r (p / 16) (p / 4 % 4)).2.2 (p % 4) (by omega))
  · exact z
theorem pq_front_0 {vi : Nat → Int32} {r o : Nat} (h : ∀ p, p < 64 → vi (64 * r + p) = 0) (e : Nat) (he : e ≤ 4) : pt_sz (pt_L vi r o) e = 0 := by
  have key : ∀ e, e < 4 → 5 ≤ pt_L vi r o e := by
    intro e he
    rcases Nat.lt_or_ge (pt_L vi r o e) 5 with z | z
    · obtain ⟨a, q, h1, h2, _, h4⟩ := (pt_L_s vi r o e).2.1 z
      rw [h _ (by omega)] at h4
      exact absurd h4 (by decide)
    · exact z
  induction e with
  | zero => rfl
  | succ e ih =>
    have h1 := pt_low_le (pt_L vi r o) e
    have h2 := key e (by omega)
    rw [pt_sz_f (by omega), ih (by omega)]
