/-! the order of the points, and what keeps a view safe -/
def pq_le (p q : Nat) : Prop := pt_cr p (q / 16) (q / 4 % 4) (q % 4)
def pq_rk (p : Nat) : Nat := 4 * (p / 4 % 4 + p % 4) + p / 16
theorem pq_Ktri : ∀ a, a < 4 → ∀ b, b < 4 → ∀ c, c < 4 → pt_K a c ≤ pt_K a b + pt_K b c := by decide +kernel
theorem pq_Krk : ∀ a, a < 4 → ∀ b, b < 4 → pt_K a b < 9 → a ≤ b + 3 * pt_K a b ∧ (a = b → pt_K a b = 0) := by decide +kernel
theorem pq_K00 : ∀ a, a < 4 → pt_K a a = 0 := by decide +kernel
theorem pq_refl (p : Nat) (hp : p < 64) : pq_le p p := by
  refine ⟨Nat.le_refl _, ?_⟩
  rw [pq_K00 _ (by omega)]
  omega
theorem pq_trans {p q r : Nat} (hp : p < 64) (hq : q < 64) (hr : r < 64) (h1 : pq_le p q) (h2 : pq_le q r) : pq_le p r := by
  obtain ⟨a1, a2⟩ := h1
  obtain ⟨b1, b2⟩ := h2
  have t := pq_Ktri (p / 16) (by omega) (q / 16) (by omega) (r / 16) (by omega)
  refine ⟨by omega, ?_⟩
  omega
theorem pq_lt_rk {p q : Nat} (hp : p < 64) (hq : q < 64) (h : pq_le p q) (hn : p ≠ q) : pq_rk p < pq_rk q := by
  obtain ⟨a1, a2⟩ := h
  obtain ⟨t1, t2⟩ := pq_Krk (p / 16) (by omega) (q / 16) (by omega) (by omega)
  have hp1 : 16 * (p / 16) + 4 * (p / 4 % 4) + p % 4 = p := by omega
  have hq1 : 16 * (q / 16) + 4 * (q / 4 % 4) + q % 4 = q := by omega
  have hp2 : p % 4 < 4 ∧ p / 4 % 4 < 4 := by omega
  have hq2 : q % 4 < 4 ∧ q / 4 % 4 < 4 := by omega
  show 4 * (p / 4 % 4 + p % 4) + p / 16 < 4 * (q / 4 % 4 + q % 4) + q / 16
  generalize pt_K (p / 16) (q / 16) = K at *
  generalize p / 16 = pa at *
  generalize p / 4 % 4 = pb at *
  generalize p % 4 = pc at *
  generalize q / 16 = qa at *
  generalize q / 4 % 4 = qb at *
  generalize q % 4 = qc at *
  by_cases e : pa = qa
  · have := t2 e
    omega
  · omega
/-- strictly below -/
def pq_lt (p q : Nat) : Prop := pq_le p q ∧ p ≠ q
theorem pq_lt_trans {p q r : Nat} (hp : p < 64) (hq : q < 64) (hr : r < 64) (h1 : pq_lt p q) (h2 : pq_lt q r) : pq_lt p r := by
  refine ⟨pq_trans hp hq hr h1.1 h2.1, fun e => ?_⟩
  have k1 := pq_lt_rk hp hq h1.1 h1.2
  have k2 := pq_lt_rk hq hr h2.1 h2.2
  rw [e] at k1
  omega
/-- D is within j, and each point where it is above 0 has one strictly below it where it is below 0 or a capability is held -/
def pq_U (j : Nat) (D C : Nat → Int32) : Prop := ∀ p, p < 64 → (-(j : Int) ≤ (D p).toInt ∧ (D p).toInt ≤ j) ∧ (0 < (D p).toInt → ∃ p', p' < 64 ∧ pq_lt p' p ∧ ((D p').toInt < 0 ∨ 0 < (C p').toInt))
theorem pq_U_cong {j : Nat} {D D' C C' : Nat → Int32} (h : pq_U j D C) (hD : ∀ p, p < 64 → D' p = D p) (hC : ∀ p, p < 64 → C' p = C p) : pq_U j D' C' := by
  intro p hp
  obtain ⟨h1, h2⟩ := h p hp
  rw [hD p hp]
  refine ⟨h1, fun z => ?_⟩
  obtain ⟨p', a, b, c⟩ := h2 z
  exact ⟨p', a, b, by rw [hD p' a, hC p' a]; exact c⟩
theorem pq_U_mono {j j' : Nat} {D C : Nat → Int32} (h : pq_U j D C) (hj : j ≤ j') : pq_U j' D C := by
  intro p hp
  obtain ⟨⟨h1, h2⟩, h3⟩ := h p hp
  exact ⟨⟨by omega, by omega⟩, h3⟩
theorem pq_U_0 {j : Nat} {D C : Nat → Int32} (h : ∀ p, p < 64 → D p = 0) : pq_U j D C := by
  intro p hp
  rw [h p hp, show (0 : Int32).toInt = 0 from rfl]
  exact ⟨⟨by omega, by omega⟩, fun z => absurd z (by omega)⟩
theorem pq_p1 {x : Int32} {j : Nat} (hj : j < 1000) (h1 : -(j : Int) ≤ x.toInt) (h2 : x.toInt ≤ j) : (x + 1).toInt = x.toInt + 1 := by
  rw [Int32.toInt_add, show (1 : Int32).toInt = 1 from rfl]
  exact Int.bmod_eq_of_le (by omega) (by omega)
theorem pq_m1 {x : Int32} {j : Nat} (hj : j < 1000) (h1 : -(j : Int) ≤ x.toInt) (h2 : x.toInt ≤ j) : (x + (-1)).toInt = x.toInt - 1 := by
  rw [Int32.toInt_add, show (-1 : Int32).toInt = -1 from rfl]
  exact Int.bmod_eq_of_le (by omega) (by omega)
/-- +1 at t, a capability held strictly below t -/
theorem pq_U_send {j f t : Nat} {D D' C : Nat → Int32} (hj : j < 1000) (h : pq_U j D C) (hf : f < 64) (ht : t < 64) (hft : pq_lt f t) (hc : 0 < (C f).toInt) (h1 : D' t = D t + 1) (h2 : ∀ p, p < 64 → p ≠ t → D' p = D p) : pq_U (j + 1) D' C := by
  have ht1 := pq_p1 hj (h t ht).1.1 (h t ht).1.2
  intro p hp
  obtain ⟨⟨a1, a2⟩, a3⟩ := h p hp
  by_cases e : p = t
  · subst e
    rw [h1, ht1]
    exact ⟨⟨by omega, by omega⟩, fun _ => ⟨f, hf, hft, Or.inr hc⟩⟩
  · rw [h2 p hp e]
    refine ⟨⟨by omega, by omega⟩, fun z => ?_⟩
    obtain ⟨p', b1, b2, b3⟩ := a3 z
    by_cases e' : p' = t
    · subst e'
      exact ⟨f, hf, pq_lt_trans hf ht hp hft b2, Or.inr hc⟩
    · exact ⟨p', b1, b2, by rw [h2 p' b1 e']; exact b3⟩
/-- -1 at c, where a capability is given up -/
theorem pq_U_drop {j c : Nat} {D D' C C' : Nat → Int32} (hj : j < 1000) (h : pq_U j D C) (hc : c < 64) (h1 : D' c = D c + (-1)) (h2 : ∀ p, p < 64 → p ≠ c → D' p = D p) (h3 : ∀ p, p < 64 → p ≠ c → C' p = C p) : pq_U (j + 1) D' C' := by
  have hc1 := pq_m1 hj (h c hc).1.1 (h c hc).1.2
  have key : ∀ p, p < 64 → 0 < (D p).toInt → ∃ p', p' < 64 ∧ pq_lt p' p ∧ ((D' p').toInt < 0 ∨ 0 < (C' p').toInt) := by
    intro p hp z
    obtain ⟨p', b1, b2, b3⟩ := (h p hp).2 z
    by_cases e' : p' = c
    · subst e'
      by_cases g : 0 < (D p').toInt
      · obtain ⟨p'', c1, c2, c3⟩ := (h p' hc).2 g
        have n : p'' ≠ p' := c2.2
        exact ⟨p'', c1, pq_lt_trans c1 hc hp c2 b2, by rw [h2 p'' c1 n, h3 p'' c1 n]; exact c3⟩
      · exact ⟨p', b1, b2, Or.inl (by rw [h1, hc1]; omega)⟩
    · exact ⟨p', b1, b2, by rw [h2 p' b1 e', h3 p' b1 e']; exact b3⟩
  intro p hp
  obtain ⟨⟨a1, a2⟩, a3⟩ := h p hp
  by_cases e : p = c
  · subst e
    rw [h1, hc1]
    exact ⟨⟨by omega, by omega⟩, fun z => key p hp (by omega)⟩
  · rw [h2 p hp e]
    exact ⟨⟨by omega, by omega⟩, fun z => key p hp z⟩
/-- one capability more -/
theorem pq_U_more {j : Nat} {D C C' : Nat → Int32} (h : pq_U j D C) (hC : ∀ p, p < 64 → 0 < (C p).toInt → 0 < (C' p).toInt) : pq_U j D C' := by
  intro p hp
  obtain ⟨a, b⟩ := h p hp
  refine ⟨a, fun z => ?_⟩
  obtain ⟨p', c1, c2, c3⟩ := b z
  exact ⟨p', c1, c2, c3.imp id (hC p' c1)⟩
/-! channels as lists of batches, each a function of the points -/
def pq_D : List (Nat → Int32) → (Nat → Int32) → Nat → Int32
  | [], g => g
  | B :: l, g => fun p => B p + pq_D l g p
/-- upright at every batch that is yet to be delivered -/
def pq_up (j : Nat) (C : Nat → Int32) : List (Nat → Int32) → (Nat → Int32) → Prop
  | [], g => pq_U j g C
  | B :: l, g => pq_U j (pq_D (B :: l) g) C ∧ pq_up j C l g
theorem pq_up_h {j : Nat} {C g : Nat → Int32} : ∀ {l : List (Nat → Int32)}, pq_up j C l g → pq_U j (pq_D l g) C
  | [], h => h
  | _ :: _, h => h.1
theorem pq_D_shift {g g' : Nat → Int32} {d : Int32} {p : Nat} (h : g' p = g p + d) : ∀ l : List (Nat → Int32), pq_D l g' p = pq_D l g p + d
  | [] => h
  | B :: l => by
    show B p + pq_D l g' p = B p + pq_D l g p + d
    rw [pq_D_shift h l, Int32.add_assoc]
theorem pq_D_same {g g' : Nat → Int32} {p : Nat} (h : g' p = g p) : ∀ l : List (Nat → Int32), pq_D l g' p = pq_D l g p
  | [] => h
  | B :: l => by
    show B p + pq_D l g' p = B p + pq_D l g p
    rw [pq_D_same h l]
theorem pq_up_map {j j' : Nat} {C C' g g' : Nat → Int32} (H : ∀ l : List (Nat → Int32), pq_U j (pq_D l g) C → pq_U j' (pq_D l g') C') : ∀ l : List (Nat → Int32), pq_up j C l g → pq_up j' C' l g'
  | [], h => H [] h
  | B :: l, h => ⟨H (B :: l) h.1, pq_up_map H l h.2⟩
theorem pq_D_app {g : Nat → Int32} {p : Nat} : ∀ l : List (Nat → Int32), pq_D (l ++ [g]) (fun _ => 0) p = pq_D l g p
  | [] => Int32.add_zero _
  | B :: l => by
    show B p + pq_D (l ++ [g]) (fun _ => 0) p = B p + pq_D l g p
    rw [pq_D_app l]
theorem pq_D_cong {g g' : Nat → Int32} {p : Nat} (h : g' p = g p) (l : List (Nat → Int32)) : pq_D l g' p = pq_D l g p := pq_D_same h l
theorem pq_up_app {j : Nat} {C g g' : Nat → Int32} (h0 : ∀ p, p < 64 → g' p = 0) : ∀ l : List (Nat → Int32), pq_up j C l g → pq_up j C (l ++ [g]) g'
  | [], h => ⟨pq_U_cong h (fun p hp => by show g p + g' p = g p; rw [h0 p hp, Int32.add_zero]) (fun _ _ => rfl), pq_U_0 h0⟩
  | B :: l, h => by
    refine ⟨pq_U_cong h.1 (fun p hp => ?_) (fun _ _ => rfl), pq_up_app h0 l h.2⟩
    show B p + pq_D (l ++ [g]) g' p = B p + pq_D l g p
    rw [pq_D_same (g := fun _ => 0) (g' := g') (h0 p hp) (l ++ [g]), pq_D_app l]
