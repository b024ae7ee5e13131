/-! the invariant of the law's loop, and what each call makes of it -/
def pq_J (W j : Nat) (ms ca pe vi bc bs ec ep ed : Nat → Int32) : Prop :=
  (1 ≤ W ∧ W ≤ 4) ∧ (∀ i, ∃ a, a ≤ j + 1 ∧ ms i = nI a) ∧ (∀ i, ∃ a, a ≤ j + 1 ∧ ca i = nI a) ∧ (∀ i, ∃ p, p < 64 ∧ ep i = nI p) ∧
  ∃ (L : Nat → List Nat) (B : Nat → List (Nat → Int32)),
    (∀ c, c < 16 → pt_ch (L c) c bc bs ec ∧ pq_bat ep ed (32 * c) (L c) (B c)) ∧
    (∀ s, s < W → ∀ r, r < W → pq_up j (fun p => ca (64 * s + p)) (B (4 * s + r)) (fun p => pe (64 * s + p))) ∧
    (∀ r, r < W → ∀ p, p < 64 → vi (64 * r + p) + pq_is (fun s => pq_D (B (4 * s + r)) (fun p => pe (64 * s + p)) p) W = ms p + pq_is (fun s => ca (64 * s + p)) W)
theorem pq_up_cong {j j' : Nat} {C C' g g' : Nat → Int32} {l : List (Nat → Int32)} (hj : j ≤ j') (hC : ∀ p, p < 64 → C' p = C p) (hg : ∀ p, p < 64 → g' p = g p) (h : pq_up j C l g) : pq_up j' C' l g' :=
  pq_up_map (fun l hU => pq_U_mono (pq_U_cong hU (fun p hp => pq_D_same (hg p hp) l) hC) hj) l h
theorem pq_J_mono {W j j' : Nat} {ms ca pe vi bc bs ec ep ed : Nat → Int32} (hj : j ≤ j') (J : pq_J W j ms ca pe vi bc bs ec ep ed) : pq_J W j' ms ca pe vi bc bs ec ep ed := by
  obtain ⟨h1, h2, h3, h4, L, B, h5, h7, h6⟩ := J
  refine ⟨h1, fun i => ?_, fun i => ?_, h4, L, B, h5, fun s hs r hr => ?_, h6⟩
  · obtain ⟨a, ha, e⟩ := h2 i
    exact ⟨a, by omega, e⟩
  · obtain ⟨a, ha, e⟩ := h3 i
    exact ⟨a, by omega, e⟩
  · exact pq_up_cong hj (fun _ _ => rfl) (fun _ _ => rfl) (h7 s hs r hr)
theorem pq_ring {v S m C a b d : Int32} (h : v + S = m + C) (e : d = a + b) : v + (S + d) = m + a + (C + b) := by
  rw [e, ← Int32.add_assoc, h, ← Int32.add_assoc, ← Int32.add_assoc]
  rw [Int32.add_assoc m C a, Int32.add_comm C a, ← Int32.add_assoc m a C]
theorem pq_J_step {W j j' s0 : Nat} {ms ca pe vi bc bs ec ep ed ms' ca' pe' : Nat → Int32} (hj' : j ≤ j') (J : pq_J W j ms ca pe vi bc bs ec ep ed) (hs : s0 < W)
    (hms : ∀ i, ∃ a, a ≤ j' + 1 ∧ ms' i = nI a) (hca : ∀ i, ∃ a, a ≤ j' + 1 ∧ ca' i = nI a) (dm dc dg : Nat → Int32)
    (h1 : ∀ p, p < 64 → ms' p = ms p + dm p) (h2 : ∀ p, p < 64 → ca' (64 * s0 + p) = ca (64 * s0 + p) + dc p) (h3 : ∀ p, p < 64 → pe' (64 * s0 + p) = pe (64 * s0 + p) + dg p) (h4 : ∀ p, p < 64 → dg p = dm p + dc p)
    (h5 : ∀ s, s ≠ s0 → ∀ p, p < 64 → ca' (64 * s + p) = ca (64 * s + p) ∧ pe' (64 * s + p) = pe (64 * s + p))
    (H : ∀ l, pq_U j (pq_D l (fun p => pe (64 * s0 + p))) (fun p => ca (64 * s0 + p)) → pq_U j' (pq_D l (fun p => pe' (64 * s0 + p))) (fun p => ca' (64 * s0 + p))) : pq_J W j' ms' ca' pe' vi bc bs ec ep ed := by
  obtain ⟨g1, g2, g3, g4, L, B, g5, g7, g6⟩ := J
  refine ⟨g1, hms, hca, g4, L, B, g5, fun s hs' r hr => ?_, fun r hr p hp => ?_⟩
  · have c := g7 s hs' r hr
    by_cases e : s = s0
    · subst e
      exact pq_up_map H _ c
    · exact pq_up_cong hj' (fun p hp => (h5 s e p hp).1) (fun p hp => (h5 s e p hp).2) c
  · have k := g6 r hr p hp
    have e1 : pq_is (fun s => pq_D (B (4 * s + r)) (fun p => pe' (64 * s + p)) p) W = pq_is (fun s => pq_D (B (4 * s + r)) (fun p => pe (64 * s + p)) p) W + dg p :=
      pq_is_one (s := s0) (pq_D_shift (g := fun p => pe (64 * s0 + p)) (g' := fun p => pe' (64 * s0 + p)) (h3 p hp) _) hs (fun i _ hne => pq_D_same (g := fun p => pe (64 * i + p)) (g' := fun p => pe' (64 * i + p)) (h5 i hne p hp).2 _)
    have e2 : pq_is (fun s => ca' (64 * s + p)) W = pq_is (fun s => ca (64 * s + p)) W + dc p :=
      pq_is_one (s := s0) (h2 p hp) hs (fun i _ hne => (h5 i hne p hp).1)
    rw [e1, e2, h1 p hp]
    exact pq_ring k (h4 p hp)
theorem pq_bd1 {f : Nat → Int32} {k q a : Nat} (hf : ∀ i, ∃ a, a ≤ k ∧ f i = nI a) (ha : a ≤ k + 1) : ∀ i, ∃ b, b ≤ k + 1 ∧ upd f q (nI a) i = nI b := by
  intro i
  by_cases e : i = q
  · rw [e, pk_us]; exact ⟨a, ha, rfl⟩
  · rw [pk_un e]
    obtain ⟨b, hb, z⟩ := hf i
    exact ⟨b, by omega, z⟩
theorem pq_pos {a : Nat} (h : a < 2 ^ 31) : 0 < (nI (a + 1)).toInt ∨ a + 1 = 2 ^ 31 := by
  by_cases e : a + 1 = 2 ^ 31
  · exact Or.inr e
  · rw [nI_toInt (by omega)]
    exact Or.inl (by omega)
theorem pq_J_send {W j s0 f t : Nat} {ms ca pe vi bc bs ec ep ed ms' pe' : Nat → Int32} (hj : j < 900) (J : pq_J W j ms ca pe vi bc bs ec ep ed) (hs : s0 < W) (hf : f < 64) (ht : t < 64) (hft : pq_lt f t) (hc : ¬ ca (64 * s0 + f) = 0)
    (e1 : ms' = upd ms t (ms t + 1)) (e2 : pe' = upd pe (64 * s0 + t) (pe (64 * s0 + t) + 1)) : pq_J W (j + 1) ms' ca pe' vi bc bs ec ep ed := by
  have hJ := J
  obtain ⟨g1, g2, g3, g4, L, B, g5, g7, g6⟩ := J
  obtain ⟨a, ha, ea⟩ := g2 t
  have hcp : 0 < (ca (64 * s0 + f)).toInt := by
    obtain ⟨b, hb, eb⟩ := g3 (64 * s0 + f)
    rw [eb] at hc ⊢
    rw [nI_toInt (by omega)]
    have : b ≠ 0 := fun z => hc (by rw [z]; rfl)
    omega
  refine pq_J_step (j' := j + 1) (Nat.le_succ j) hJ hs ?_ (fun i => ?_) (fun p => if p = t then 1 else 0) (fun _ => 0) (fun p => if p = t then 1 else 0) (fun p hp => ?_) (fun p hp => (Int32.add_zero _).symm) (fun p hp => ?_) (fun p hp => (Int32.add_zero _).symm) (fun s hne p hp => ⟨rfl, ?_⟩) (fun l hU => ?_)
  · rw [e1, ea, nI_1]
    exact pq_bd1 g2 (by omega)
  · obtain ⟨b, hb, eb⟩ := g3 i
    exact ⟨b, by omega, eb⟩
  · rw [e1]
    by_cases e : p = t
    · rw [e, pk_us]; simp only [if_true]
    · rw [pk_un e]; simp only [if_neg e, Int32.add_zero]
  · rw [e2]
    by_cases e : p = t
    · rw [e, pk_us]; simp only [if_true]
    · rw [pk_un (by omega)]; simp only [if_neg e, Int32.add_zero]
  · rw [e2, pk_un (by omega)]
  · refine pq_U_send (by omega) hU hf ht hft hcp ?_ (fun p hp e => ?_)
    · exact pq_D_shift (g := fun p => pe (64 * s0 + p)) (g' := fun p => pe' (64 * s0 + p)) (by show pe' (64 * s0 + t) = _; rw [e2, pk_us]) l
    · exact pq_D_same (g := fun p => pe (64 * s0 + p)) (g' := fun p => pe' (64 * s0 + p)) (by show pe' (64 * s0 + p) = _; rw [e2, pk_un (by omega)]) l
theorem pq_J_recv {W j s0 c : Nat} {ms ca pe vi bc bs ec ep ed ms' ca' : Nat → Int32} (hj : j < 900) (J : pq_J W j ms ca pe vi bc bs ec ep ed) (hs : s0 < W) (hc : c < 64) (hm : ¬ ms c = 0)
    (e1 : ms' = upd ms c (ms c + (-1))) (e2 : ca' = upd ca (64 * s0 + c) (ca (64 * s0 + c) + 1)) : pq_J W (j + 1) ms' ca' pe vi bc bs ec ep ed := by
  have hJ := J
  obtain ⟨g1, g2, g3, g4, L, B, g5, g7, g6⟩ := J
  obtain ⟨a, ha, ea⟩ := g2 c
  obtain ⟨a', rfl⟩ : ∃ a', a = a' + 1 := by
    refine ⟨a - 1, ?_⟩
    have : a ≠ 0 := fun z => hm (by rw [ea, z]; rfl)
    omega
  obtain ⟨b, hb, eb⟩ := g3 (64 * s0 + c)
  refine pq_J_step (j' := j + 1) (Nat.le_succ j) hJ hs ?_ ?_ (fun p => if p = c then (-1) else 0) (fun p => if p = c then 1 else 0) (fun _ => 0) (fun p hp => ?_) (fun p hp => ?_) (fun p hp => (Int32.add_zero _).symm) (fun p hp => ?_) (fun s hne p hp => ⟨?_, rfl⟩) (fun l hU => ?_)
  · rw [e1, ea, pk_m1]
    exact pq_bd1 g2 (by omega)
  · rw [e2, eb, nI_1]
    exact pq_bd1 g3 (by omega)
  · rw [e1]
    by_cases e : p = c
    · rw [e, pk_us]; simp only [if_true]
    · rw [pk_un e]; simp only [if_neg e, Int32.add_zero]
  · rw [e2]
    by_cases e : p = c
    · rw [e, pk_us]; simp only [if_true]
    · rw [pk_un (by omega)]; simp only [if_neg e, Int32.add_zero]
  · by_cases e : p = c
    · simp only [if_pos e]; decide
    · simp only [if_neg e]; decide
  · rw [e2, pk_un (by omega)]
  · refine pq_U_more (pq_U_mono hU (Nat.le_succ j)) (fun p hp z => ?_)
    show 0 < (ca' (64 * s0 + p)).toInt
    rw [e2]
    by_cases e : p = c
    · rw [e, pk_us, eb, nI_1, nI_toInt (by omega)]; omega
    · rw [pk_un (by omega)]; exact z
theorem pq_J_drop {W j s0 c : Nat} {ms ca pe vi bc bs ec ep ed ca' pe' : Nat → Int32} (hj : j < 900) (J : pq_J W j ms ca pe vi bc bs ec ep ed) (hs : s0 < W) (hc : c < 64) (hm : ¬ ca (64 * s0 + c) = 0)
    (e1 : ca' = upd ca (64 * s0 + c) (ca (64 * s0 + c) + (-1))) (e2 : pe' = upd pe (64 * s0 + c) (pe (64 * s0 + c) + (-1))) : pq_J W (j + 1) ms ca' pe' vi bc bs ec ep ed := by
  have hJ := J
  obtain ⟨g1, g2, g3, g4, L, B, g5, g7, g6⟩ := J
  obtain ⟨a, ha, ea⟩ := g3 (64 * s0 + c)
  obtain ⟨a', rfl⟩ : ∃ a', a = a' + 1 := by
    refine ⟨a - 1, ?_⟩
    have : a ≠ 0 := fun z => hm (by rw [ea, z]; rfl)
    omega
  refine pq_J_step (j' := j + 1) (Nat.le_succ j) hJ hs (fun i => ?_) ?_ (fun _ => 0) (fun p => if p = c then (-1) else 0) (fun p => if p = c then (-1) else 0) (fun p hp => (Int32.add_zero _).symm) (fun p hp => ?_) (fun p hp => ?_) (fun p hp => (Int32.zero_add _).symm) (fun s hne p hp => ⟨?_, ?_⟩) (fun l hU => ?_)
  · obtain ⟨b, hb, eb⟩ := g2 i
    exact ⟨b, by omega, eb⟩
  · rw [e1, ea, pk_m1]
    exact pq_bd1 g3 (by omega)
  · rw [e1]
    by_cases e : p = c
    · rw [e, pk_us]; simp only [if_true]
    · rw [pk_un (by omega)]; simp only [if_neg e, Int32.add_zero]
  · rw [e2]
    by_cases e : p = c
    · rw [e, pk_us]; simp only [if_true]
    · rw [pk_un (by omega)]; simp only [if_neg e, Int32.add_zero]
  · rw [e1, pk_un (by omega)]
  · rw [e2, pk_un (by omega)]
  · refine pq_U_drop (by omega) hU hc ?_ (fun p hp e => ?_) (fun p hp e => ?_)
    · exact pq_D_shift (g := fun p => pe (64 * s0 + p)) (g' := fun p => pe' (64 * s0 + p)) (by show pe' (64 * s0 + c) = _; rw [e2, pk_us]) l
    · exact pq_D_same (g := fun p => pe (64 * s0 + p)) (g' := fun p => pe' (64 * s0 + p)) (by show pe' (64 * s0 + p) = _; rw [e2, pk_un (by omega)]) l
    · show ca' (64 * s0 + p) = ca (64 * s0 + p)
      rw [e1, pk_un (by omega)]
theorem pq_J_adv {W j s0 o t : Nat} {ms ca pe vi bc bs ec ep ed ca' pe' : Nat → Int32} (hj : j < 900) (J : pq_J W j ms ca pe vi bc bs ec ep ed) (hs : s0 < W) (ho : o < 64) (ht : t < 64) (hot : pq_lt o t) (hc : ¬ ca (64 * s0 + o) = 0)
    (e1 : ca' = upd (upd ca (64 * s0 + o) (ca (64 * s0 + o) + (-1))) (64 * s0 + t) (ca (64 * s0 + t) + 1)) (e2 : pe' = upd (upd pe (64 * s0 + o) (pe (64 * s0 + o) + (-1))) (64 * s0 + t) (pe (64 * s0 + t) + 1)) : pq_J W (j + 2) ms ca' pe' vi bc bs ec ep ed := by
  have hJ := J
  have hne : o ≠ t := hot.2
  obtain ⟨g1, g2, g3, g4, L, B, g5, g7, g6⟩ := J
  obtain ⟨a, ha, ea⟩ := g3 (64 * s0 + o)
  obtain ⟨a', rfl⟩ : ∃ a', a = a' + 1 := by
    refine ⟨a - 1, ?_⟩
    have : a ≠ 0 := fun z => hc (by rw [ea, z]; rfl)
    omega
  obtain ⟨b, hb, eb⟩ := g3 (64 * s0 + t)
  have hcp : 0 < (ca (64 * s0 + o)).toInt := by
    rw [ea, nI_toInt (by omega)]; omega
  have at_t : ∀ (f : Nat → Int32) (x y : Int32), upd (upd f (64 * s0 + o) x) (64 * s0 + t) y (64 * s0 + t) = y := fun f x y => pk_us
  have at_o : ∀ (f : Nat → Int32) (x y : Int32), upd (upd f (64 * s0 + o) x) (64 * s0 + t) y (64 * s0 + o) = x := fun f x y => by rw [pk_un (by omega), pk_us]
  have at_n : ∀ (f : Nat → Int32) (x y : Int32) (i : Nat), i ≠ 64 * s0 + o → i ≠ 64 * s0 + t → upd (upd f (64 * s0 + o) x) (64 * s0 + t) y i = f i := fun f x y i h1 h2 => by rw [pk_un h2, pk_un h1]
  refine pq_J_step (j' := j + 2) (by omega) hJ hs (fun i => ?_) (fun i => ?_) (fun _ => 0) (fun p => if p = t then 1 else if p = o then (-1) else 0) (fun p => if p = t then 1 else if p = o then (-1) else 0) (fun p hp => (Int32.add_zero _).symm) (fun p hp => ?_) (fun p hp => ?_) (fun p hp => (Int32.zero_add _).symm) (fun s hne' p hp => ⟨?_, ?_⟩) (fun l hU => ?_)
  · obtain ⟨b, hb, eb⟩ := g2 i
    exact ⟨b, by omega, eb⟩
  · rw [e1]
    by_cases x1 : i = 64 * s0 + t
    · rw [x1, at_t, eb, nI_1]; exact ⟨b + 1, by omega, rfl⟩
    · by_cases x2 : i = 64 * s0 + o
      · rw [x2, at_o, ea, pk_m1]; exact ⟨a', by omega, rfl⟩
      · rw [at_n _ _ _ _ x2 x1]
        obtain ⟨b, hb, eb⟩ := g3 i
        exact ⟨b, by omega, eb⟩
  · rw [e1]
    by_cases x1 : p = t
    · rw [x1, at_t]; simp only [if_true]
    · by_cases x2 : p = o
      · rw [x2, at_o]; simp only [if_neg hne, if_true]
      · rw [at_n _ _ _ _ (by omega) (by omega)]; simp only [if_neg x1, if_neg x2, Int32.add_zero]
  · rw [e2]
    by_cases x1 : p = t
    · rw [x1, at_t]; simp only [if_true]
    · by_cases x2 : p = o
      · rw [x2, at_o]; simp only [if_neg hne, if_true]
      · rw [at_n _ _ _ _ (by omega) (by omega)]; simp only [if_neg x1, if_neg x2, Int32.add_zero]
  · rw [e1, at_n _ _ _ _ (by omega) (by omega)]
  · rw [e2, at_n _ _ _ _ (by omega) (by omega)]
  · have k1 : pq_U (j + 1) (pq_D l (fun p => upd pe (64 * s0 + t) (pe (64 * s0 + t) + 1) (64 * s0 + p))) (fun p => ca (64 * s0 + p)) := by
      refine pq_U_send (by omega) hU ho ht hot hcp ?_ (fun p hp e => ?_)
      · exact pq_D_shift (g := fun p => pe (64 * s0 + p)) (g' := fun p => upd pe (64 * s0 + t) (pe (64 * s0 + t) + 1) (64 * s0 + p)) pk_us l
      · exact pq_D_same (g := fun p => pe (64 * s0 + p)) (g' := fun p => upd pe (64 * s0 + t) (pe (64 * s0 + t) + 1) (64 * s0 + p)) (pk_un (by omega)) l
    have k2 : pq_U (j + 1) (pq_D l (fun p => upd pe (64 * s0 + t) (pe (64 * s0 + t) + 1) (64 * s0 + p))) (fun p => upd ca (64 * s0 + t) (ca (64 * s0 + t) + 1) (64 * s0 + p)) := by
      refine pq_U_more k1 (fun p hp z => ?_)
      show 0 < (upd ca (64 * s0 + t) (ca (64 * s0 + t) + 1) (64 * s0 + p)).toInt
      by_cases e : p = t
      · rw [e, pk_us, eb, nI_1, nI_toInt (by omega)]; omega
      · rw [pk_un (by omega)]; exact z
    refine pq_U_drop (c := o) (by omega) k2 ho ?_ (fun p hp e => ?_) (fun p hp e => ?_)
    · exact pq_D_shift (g := fun p => upd pe (64 * s0 + t) (pe (64 * s0 + t) + 1) (64 * s0 + p)) (g' := fun p => pe' (64 * s0 + p)) (by show pe' (64 * s0 + o) = upd pe (64 * s0 + t) (pe (64 * s0 + t) + 1) (64 * s0 + o) + (-1); rw [e2, at_o, pk_un (by omega)]) l
    · refine pq_D_same (g := fun p => upd pe (64 * s0 + t) (pe (64 * s0 + t) + 1) (64 * s0 + p)) (g' := fun p => pe' (64 * s0 + p)) ?_ l
      show pe' (64 * s0 + p) = upd pe (64 * s0 + t) (pe (64 * s0 + t) + 1) (64 * s0 + p)
      rw [e2]
      by_cases x : p = t
      · rw [x, at_t, pk_us]
      · rw [at_n _ _ _ _ (by omega) (by omega), pk_un (by omega)]
    · show ca' (64 * s0 + p) = upd ca (64 * s0 + t) (ca (64 * s0 + t) + 1) (64 * s0 + p)
      rw [e1]
      by_cases x : p = t
      · rw [x, at_t, pk_us]
      · rw [at_n _ _ _ _ (by omega) (by omega), pk_un (by omega)]
