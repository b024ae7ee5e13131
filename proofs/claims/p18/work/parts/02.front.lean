/-! the graph and the frontier -/
def pt_K (a b : Nat) : Nat := if a = b then 0 else if a = 3 ∨ b = 0 then 9 else if a = 2 ∧ b = 1 then 1 else 0
/-- the point p could result in (o, e, r); 9 feedback edges stand for none: r is below 9 -/
def pt_cr (p o e r : Nat) : Prop := p / 4 % 4 ≤ e ∧ p % 4 + pt_K (p / 16) o ≤ r
/-- the pair (e, r) is one of M for operator o at worker w -/
def pt_M (f : Nat → Int32) (w o e r : Nat) : Prop := ∃ a q, a < 4 ∧ q < 4 ∧ q + pt_K a o = r ∧ 0 < f (64 * w + (16 * a + 4 * e + q))
def pt_lst (M : Nat → Prop) (m : Nat) : Prop := m ≤ 5 ∧ (m < 5 → M m) ∧ ∀ r, r < m → ¬ M r
theorem pt_lst_ex (M : Nat → Prop) : ∃ m, pt_lst M m := by
  by_cases h : ∃ r, r < 5 ∧ M r
  · obtain ⟨k, ⟨hk1, hk2⟩, hl⟩ := pk_least (fun r => r < 5 ∧ M r) h
    exact ⟨k, by omega, fun _ => hk2, fun r hr m => hl r hr ⟨by omega, m⟩⟩
  · exact ⟨5, Nat.le_refl 5, fun z => absurd z (by omega), fun r hr m => h ⟨r, hr, m⟩⟩
theorem pt_lst_un {M : Nat → Prop} {m n : Nat} (h : pt_lst M m) (g : pt_lst M n) : m = n := by
  obtain ⟨a1, a2, a3⟩ := h
  obtain ⟨b1, b2, b3⟩ := g
  rcases Nat.lt_trichotomy m n with z | z | z
  · exact absurd (a2 (by omega)) (b3 m z)
  · exact z
  · exact absurd (b2 (by omega)) (a3 n z)
/-- the least round of epoch e in M, 5 where there is none -/
noncomputable def pt_L (f : Nat → Int32) (w o e : Nat) : Nat := Classical.choose (pt_lst_ex (pt_M f w o e))
theorem pt_L_s (f : Nat → Int32) (w o e : Nat) : pt_lst (pt_M f w o e) (pt_L f w o e) := Classical.choose_spec (pt_lst_ex (pt_M f w o e))
def pt_low (L : Nat → Nat) : Nat → Nat
  | 0 => 5
  | e + 1 => if L e < pt_low L e then L e else pt_low L e
def pt_sz (L : Nat → Nat) : Nat → Nat
  | 0 => 0
  | e + 1 => if L e < pt_low L e then pt_sz L e + 1 else pt_sz L e
theorem pt_low_t {L : Nat → Nat} {e : Nat} (h : L e < pt_low L e) : pt_low L (e + 1) = L e := if_pos h
theorem pt_low_f {L : Nat → Nat} {e : Nat} (h : ¬ L e < pt_low L e) : pt_low L (e + 1) = pt_low L e := if_neg h
theorem pt_sz_t {L : Nat → Nat} {e : Nat} (h : L e < pt_low L e) : pt_sz L (e + 1) = pt_sz L e + 1 := if_pos h
theorem pt_sz_f {L : Nat → Nat} {e : Nat} (h : ¬ L e < pt_low L e) : pt_sz L (e + 1) = pt_sz L e := if_neg h
theorem pt_sz_le (L : Nat → Nat) : ∀ e, pt_sz L e ≤ e := by
  intro e
  induction e with
  | zero => exact Nat.le_refl 0
  | succ e ih =>
    by_cases h : L e < pt_low L e
    · rw [pt_sz_t h]; omega
    · rw [pt_sz_f h]; omega
theorem pt_low_lt {L : Nat → Nat} {r : Nat} : ∀ {e : Nat}, r < pt_low L e ↔ r < 5 ∧ ∀ e', e' < e → r < L e' := by
  intro e
  induction e with
  | zero => exact ⟨fun h => ⟨h, fun e' h' => absurd h' (by omega)⟩, fun h => h.1⟩
  | succ e ih =>
    by_cases h : L e < pt_low L e
    · rw [pt_low_t h]
      constructor
      · intro g
        have k := ih.mp (show r < pt_low L e by omega)
        refine ⟨k.1, fun e' he => ?_⟩
        by_cases x : e' = e
        · rw [x]; exact g
        · exact k.2 e' (by omega)
      · intro g
        exact g.2 e (by omega)
    · rw [pt_low_f h]
      constructor
      · intro g
        have k := ih.mp g
        refine ⟨k.1, fun e' he => ?_⟩
        by_cases x : e' = e
        · rw [x]; omega
        · exact k.2 e' (by omega)
      · intro g
        exact ih.mpr ⟨g.1, fun e' he => g.2 e' (by omega)⟩
theorem pt_low_le (L : Nat → Nat) (e : Nat) : pt_low L e ≤ 5 := by
  rcases Nat.lt_or_ge 5 (pt_low L e) with h | h
  · exact absurd (pt_low_lt.mp h).1 (by omega)
  · exact h
/-- the pair (e, r) is an element of the frontier -/
def pt_F (f : Nat → Int32) (w o e r : Nat) : Prop := pt_M f w o e r ∧ ∀ e2 r2, e2 ≤ e → r2 ≤ r → ¬ (e2 = e ∧ r2 = r) → ¬ pt_M f w o e2 r2
theorem pt_F_iff {f : Nat → Int32} {w o e r : Nat} (hr : r < 5) : pt_F f w o e r ↔ r = pt_L f w o e ∧ pt_L f w o e < pt_low (pt_L f w o) e := by
  obtain ⟨l1, l2, l3⟩ := pt_L_s f w o e
  constructor
  · rintro ⟨h1, h2⟩
    have g : r = pt_L f w o e := by
      rcases Nat.lt_trichotomy r (pt_L f w o e) with z | z | z
      · exact absurd h1 (l3 r z)
      · exact z
      · exact absurd (l2 (by omega)) (h2 e _ (Nat.le_refl e) (Nat.le_of_lt z) (fun t => by have := t.2; omega))
    refine ⟨g, pt_low_lt.mpr ⟨by omega, fun e' he => ?_⟩⟩
    obtain ⟨k1, k2, k3⟩ := pt_L_s f w o e'
    rcases Nat.lt_or_ge (pt_L f w o e) (pt_L f w o e') with z | z
    · exact z
    · exact absurd (k2 (by omega)) (h2 e' _ (by omega) (by omega) (fun t => by have := t.1; omega))
  · rintro ⟨h1, h2⟩
    have k := pt_low_lt.mp h2
    refine ⟨by rw [h1]; exact l2 k.1, fun e2 r2 g1 g2 g3 => ?_⟩
    by_cases x : e2 = e
    · rw [x]
      exact l3 r2 (by have : ¬ r2 = r := fun t => g3 ⟨x, t⟩; omega)
    · have := k.2 e2 (by omega)
      exact (pt_L_s f w o e2).2.2 r2 (by omega)
/-! occurrences -/
/-- msgs p and the capabilities of the first w workers at p -/
def pt_occ (m c : Nat → Int32) (p : Nat) : Nat → Nat
  | 0 => (m p).toNatClampNeg
  | w + 1 => pt_occ m c p w + (c (64 * w + p)).toNatClampNeg
theorem pt_occ_le {m c : Nat → Int32} {p k : Nat} (hk : k < 2 ^ 20) (hm : ∀ i, ∃ a, a ≤ k ∧ m i = nI a) (hc : ∀ i, ∃ a, a ≤ k ∧ c i = nI a) : ∀ w, pt_occ m c p w ≤ k * (w + 1) := by
  intro w
  induction w with
  | zero =>
    obtain ⟨a, ha, e⟩ := hm p
    show (m p).toNatClampNeg ≤ _
    rw [e, nI_clamp (by omega)]
    omega
  | succ w ih =>
    obtain ⟨a, ha, e⟩ := hc (64 * w + p)
    show pt_occ m c p w + (c (64 * w + p)).toNatClampNeg ≤ _
    rw [e, nI_clamp (by omega), Nat.mul_add, Nat.mul_one]
    omega
theorem pt_occ_tail {m c : Nat → Int32} {p W : Nat} (hc : ∀ i, 64 * W ≤ i → c i = 0) : ∀ {w : Nat}, W ≤ w → pt_occ m c p w = pt_occ m c p W := by
  intro w
  induction w with
  | zero => intro h; rw [show W = 0 by omega]
  | succ w ih =>
    intro h
    by_cases e : W = w + 1
    · rw [e]
    · show pt_occ m c p w + (c (64 * w + p)).toNatClampNeg = _
      rw [hc _ (by omega), ih (by omega)]
      rfl
