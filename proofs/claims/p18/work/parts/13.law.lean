/-! the law: its checks after a step -/
theorem pl_b4 {i : Nat} (hi : i < 64) : nI i >>> ((4 : Int32) &&& 31) = nI (i / 16) := pk_shrN (n := i) (by omega) ((4 : Int32) &&& 31) 4 (by decide)
theorem pl_b2 {i : Nat} (hi : i < 64) : (nI i >>> ((2 : Int32) &&& 31)) &&& 3 = nI (i / 4 % 4) := by
  rw [show nI i >>> ((2 : Int32) &&& 31) = nI (i / 4) from pk_shrN (n := i) (by omega) ((2 : Int32) &&& 31) 2 (by decide)]
  exact pk_andN (n := i / 4) (by omega) 2 (by decide)
theorem pl_b0 {i : Nat} (hi : i < 64) : nI i &&& 3 = nI (i % 4) := pk_andN (n := i) (by omega) 2 (by decide)
theorem pl_and3 (x : Int32) : ∃ d, d < 4 ∧ x &&& 3 = nI d := pk_andE x 2 (by decide)
theorem pl_and63 (x : Int32) : ∃ d, d < 64 ∧ x &&& 63 = nI d := pk_andE x 6 (by decide)
theorem pl_and15 (x : Int32) : ∃ d, d < 16 ∧ x &&& 15 = nI d := pk_andE x 4 (by decide)
theorem pl_and255 (x : Int32) : ∃ d, d < 256 ∧ x &&& 255 = nI d := pk_andE x 8 (by decide)
theorem pl_orT : ∀ a, a < 4 → ∀ b, b < 16 → (nI a <<< ((4 : Int32) &&& 31)) ||| nI b = nI (16 * a + b) := by decide +kernel
theorem pl_or (x y : Int32) : ∃ q, q < 64 ∧ ((x &&& 3) <<< ((4 : Int32) &&& 31)) ||| (y &&& 15) = nI q := by
  obtain ⟨a, ha, e1⟩ := pl_and3 x
  obtain ⟨b, hb, e2⟩ := pl_and15 y
  exact ⟨16 * a + b, by omega, by rw [e1, e2]; exact pl_orT a ha b hb⟩
theorem pl_mod {W : Nat} (h1 : 1 ≤ W) (h4 : W ≤ 4) (x : Int32) : ∃ w, w < W ∧ (x &&& 255) - (x &&& 255) / nI W * nI W = nI w := by
  obtain ⟨a, ha, e⟩ := pl_and255 x
  exact ⟨a % W, Nat.mod_lt _ (by omega), by rw [e]; exact pk_rem (by omega) (by omega) (by omega)⟩
theorem pl_at (i : Nat) (hi : i < 64) : 16 * (i / 16) + 4 * (i / 4 % 4) + i % 4 = i := by omega
theorem pl_occ {m c : Nat → Int32} {p : Nat} : ∀ {w : Nat}, 0 < pt_occ m c p w → ¬ m p = 0 ∨ ∃ s, s < w ∧ ¬ c (64 * s + p) = 0 := by
  intro w
  induction w with
  | zero =>
    intro h
    refine Or.inl (fun z => ?_)
    have h' : 0 < (m p).toNatClampNeg := h
    rw [z] at h'
    exact absurd h' (by decide)
  | succ w ih =>
    intro h
    have h' : 0 < pt_occ m c p w + (c (64 * w + p)).toNatClampNeg := h
    by_cases z : c (64 * w + p) = 0
    · rw [z, show (0 : Int32).toNatClampNeg = 0 from rfl] at h'
      rcases ih (by omega) with g | ⟨s, hs, g⟩
      · exact Or.inl g
      · exact Or.inr ⟨s, by omega, g⟩
    · exact Or.inr ⟨w, by omega, z⟩
theorem pl_pos {x : Int32} (h : 0 < x.toInt) : 0 < x := by
  rw [Int32.lt_iff_toInt_lt, show (0 : Int32).toInt = 0 from rfl]
  exact h
section
variable {ms ca pe vi bc bs ec ep ed : Nat → Int32} {W j kc ks L : Nat} {xs : Nat → Int32} {post : Int32 → Prop} {J37 : Int32 → Int32 → (Nat → Int32) → (Nat → Int32) → (Nat → Int32) → (Nat → Int32) → (Nat → Int32) → (Nat → Int32) → (Nat → Int32) → (Nat → Int32) → (Nat → Int32) → Prop} {x3 : Int32}
theorem pl_595 {J537 : Int32 → Int32 → Prop} {x4 x10 s0 : Int32} {i : Nat} (hW : W ≤ 4) (hi : i < 64)
    (hcr : ¬ x10 = 0 → ∀ w, w < W → ∃ p, p < 64 ∧ ¬ vi (64 * w + p) ≤ 0 ∧ pt_cr p (i / 16) (i / 4 % 4) (i % 4))
    (h0 : (∀ w, w < W → ca (64 * w + i) = 0) → J537 s0 (nI (i + 1))) (h1 : (∃ w, w < W ∧ ¬ ca (64 * w + i) = 0) → J537 1 (nI (i + 1))) :
    ∃ k, wL_law_595 post L xs J37 J537 (nI W) x3 x4 (nI i) (nI (i / 16)) (nI (i / 4 % 4)) (nI (i % 4)) x10 kc ks (nI W) ms ca pe vi bc bs ec ep ed k s0 0 := by
  refine loop_0 (fun k w s => wL_law_595 post L xs J37 J537 (nI W) x3 x4 (nI i) (nI (i / 16)) (nI (i / 4 % 4)) (nI (i % 4)) x10 kc ks (nI W) ms ca pe vi bc bs ec ep ed k s (nI w)) (fun w s => (s = s0 ∧ ∀ w', w' < w → ca (64 * w' + i) = 0) ∨ (s = 1 ∧ ∃ w', w' < W ∧ ¬ ca (64 * w' + i) = 0)) W s0 (Or.inl ⟨rfl, fun w' h => absurd h (by omega)⟩) ?_ ?_
  · intro k s hs
    refine pk_le W W (fun _ => nm_r (nI_1 i) ?_) (fun z => absurd z (by omega))
    rcases hs with ⟨rfl, g⟩ | ⟨rfl, g⟩
    · exact h0 g
    · exact h1 g
  · intro k w s hw hs hn
    have look : wL_law_623 post L xs J37 J537 (wL_law_595 post L xs J37 J537 (nI W) x3 x4 (nI i) (nI (i / 16)) (nI (i / 4 % 4)) (nI (i % 4)) x10 kc ks (nI W) ms ca pe vi bc bs ec ep ed k) (nI W) x3 x4 s (nI i) (nI (i / 16)) (nI (i / 4 % 4)) (nI (i % 4)) x10 (nI w) kc ks (nI W) ms ca pe vi bc bs ec ep ed := by
      unfold wL_law_623
      refine px_capC hW hw (by omega) (by omega) (by omega) ?_
      rw [pl_at i hi]
      refine br_c (fun z => nm_r (nI_1 w) (hn _ ?_)) (fun z => nm_r (nI_1 w) (hn _ (Or.inr ⟨rfl, w, hw, z⟩)))
      rcases hs with ⟨rfl, g⟩ | ⟨rfl, g⟩
      · refine Or.inl ⟨rfl, fun w' hw' => ?_⟩
        by_cases e : w' = w
        · rw [e]; exact z
        · exact g w' (by omega)
      · exact Or.inr ⟨rfl, g⟩
    refine pk_le W w (fun z => absurd z (by omega)) (fun _ => br_c (fun _ => look) (fun z => ?_))
    refine px_canReach hW hw (by omega) (by omega) (by omega) (fun _ => br_f pt_10 look) (fun n => ?_)
    obtain ⟨p, hp, g1, g2⟩ := hcr z w hw
    exact absurd g2 (n p hp g1)
theorem pl_671 {J659 : Int32 → Int32 → Prop} {x4 x5 x6 : Int32} {w : Nat} (hW : W ≤ 4) (hw : w < W)
    (h0 : (∀ o, o < 4 → pt_sz (pt_L vi w o) 4 = 0) → x5 = 0 ∧ J659 x6 (nI (w + 1))) (h1 : (∃ o, o < 4 ∧ 0 < pt_sz (pt_L vi w o) 4) → J659 0 (nI (w + 1))) :
    ∃ k, wL_law_671 post L xs J37 J659 (nI W) x3 x4 x5 x6 (nI w) kc ks (nI W) ms ca pe vi bc bs ec ep ed k 0 0 := by
  refine loop_0 (fun k o s => wL_law_671 post L xs J37 J659 (nI W) x3 x4 x5 x6 (nI w) kc ks (nI W) ms ca pe vi bc bs ec ep ed k s (nI o)) (fun o s => (s = 0 ∧ ∀ o', o' < o → pt_sz (pt_L vi w o') 4 = 0) ∨ (s = 1 ∧ ∃ o', o' < 4 ∧ 0 < pt_sz (pt_L vi w o') 4)) 4 0 (Or.inl ⟨rfl, fun o' h => absurd h (by omega)⟩) ?_ ?_
  · intro k s hs
    refine pk_le 4 4 (fun _ => ?_) (fun z => absurd z (by omega))
    unfold wL_law_705
    rcases hs with ⟨rfl, g⟩ | ⟨rfl, g⟩
    · exact br_t rfl (br_t (h0 g).1 (nm_r (nI_1 w) (h0 g).2))
    · exact br_f pt_10 (br_c (fun _ => nm_r (nI_1 w) (h1 g)) (fun _ => br_f pt_10 (nm_r (nI_1 w) (h1 g))))
  · intro k o s ho hs hn
    have hle := pt_sz_le (pt_L vi w o) 4
    refine pk_le 4 o (fun z => absurd z (by omega)) (fun _ => px_fsize hW hw ho ?_)
    refine pk_le (pt_sz (pt_L vi w o) 4) 0 (fun z => nm_r (nI_1 o) (hn _ ?_)) (fun z => nm_r (nI_1 o) (hn _ (Or.inr ⟨rfl, o, ho, z⟩)))
    rcases hs with ⟨rfl, g⟩ | ⟨rfl, g⟩
    · refine Or.inl ⟨rfl, fun o' ho' => ?_⟩
      by_cases e : o' = o
      · rw [e]; omega
      · exact g o' (by omega)
    · exact Or.inr ⟨rfl, g⟩
theorem pl_659 {x5 : Int32} {t : Nat} (hj : j < 890) (J : pq_J W j ms ca pe vi bc bs ec ep ed)
    (hx : (x5 = 0 ∧ ∀ p, p < 64 → ms p = 0 ∧ ∀ w, w < W → ca (64 * w + p) = 0) ∨ (x5 = 1 ∧ ∃ p, p < 64 ∧ (¬ ms p = 0 ∨ ∃ w, w < W ∧ ¬ ca (64 * w + p) = 0)))
    (hJ : J37 (nI (t + 1)) (nI W) ms ca pe vi bc bs ec ep ed) : ∃ k, wL_law_659 post L xs J37 (nI W) x3 (nI t) x5 kc ks (nI W) ms ca pe vi bc bs ec ep ed k 1 0 := by
  have hW := J.1.2
  have hW1 := J.1.1
  have A : x5 = 1 → ∀ w, w < W → ∃ o, o < 4 ∧ 0 < pt_sz (pt_L vi w o) 4 := by
    intro e w hw
    rcases hx with ⟨z, _⟩ | ⟨_, p, hp, g⟩
    · rw [e] at z; exact absurd z pt_10
    · obtain ⟨q, hq, _, hv⟩ := pq_J_safe (by omega) J hw hp g
      exact ⟨q / 16, by omega, pq_front_pos hq (pl_pos hv)⟩
  refine loop_0 (fun k w s => wL_law_659 post L xs J37 (nI W) x3 (nI t) x5 kc ks (nI W) ms ca pe vi bc bs ec ep ed k s (nI w)) (fun w s => (s = 1 ∧ ∀ w', w' < w → ∀ o, o < 4 → pt_sz (pt_L vi w' o) 4 = 0) ∨ (s = 0 ∧ ∃ w', w' < W ∧ ∃ o, o < 4 ∧ 0 < pt_sz (pt_L vi w' o) 4)) W 1 (Or.inl ⟨rfl, fun w' h => absurd h (by omega)⟩) ?_ ?_
  · intro k s hs
    refine pk_le W W (fun _ => px_quiet hW (fun q1 q2 => br_f pt_10 (br_f ?_ (nm_r (nI_1 t) hJ))) (fun _ => br_t rfl (nm_r (nI_1 t) hJ))) (fun z => absurd z (by omega))
    intro e
    rcases hx with ⟨z, g⟩ | ⟨z, _⟩
    · rcases hs with ⟨y, _⟩ | ⟨_, w, hw, o, ho, y⟩
      · rw [y, z] at e; exact pt_10 e
      · have v0 : ∀ p, p < 64 → vi (64 * w + p) = 0 := fun p hp => pq_J_quiet J (fun s hs p hp => pt_cnt_0 (q1 s hs) p hp) q2 (fun p hp => (g p hp).1) (fun s hs p hp => (g p hp).2 s hs) hw hp
        rw [pq_front_0 v0 4 (Nat.le_refl 4)] at y
        omega
    · rcases hs with ⟨_, y⟩ | ⟨y, _⟩
      · obtain ⟨o, ho, q⟩ := A z 0 (by omega)
        rw [y 0 (by omega) o ho] at q
        omega
      · rw [y, z] at e; exact pt_10 e.symm
  · intro k w s hw hs hn
    refine pk_le W w (fun z => absurd z (by omega)) (fun _ => pl_671 hW hw (fun g => ⟨?_, hn _ ?_⟩) (fun g => hn _ (Or.inr ⟨rfl, w, hw, g⟩)))
    · rcases hx with ⟨z, _⟩ | ⟨z, _⟩
      · exact z
      · obtain ⟨o, ho, q⟩ := A z w hw
        rw [g o ho] at q
        omega
    · rcases hs with ⟨rfl, y⟩ | ⟨rfl, y⟩
      · refine Or.inl ⟨rfl, fun w' hw' o ho => ?_⟩
        by_cases e : w' = w
        · rw [e]; exact g o ho
        · exact y w' (by omega) o ho
      · exact Or.inr ⟨rfl, y⟩
theorem pl_check {t : Nat} (hj : j < 890) (J : pq_J W j ms ca pe vi bc bs ec ep ed) (hJ : J37 (nI (t + 1)) (nI W) ms ca pe vi bc bs ec ep ed) :
    ∃ k, wL_law_537 post L xs J37 (nI W) x3 (nI t) kc ks (nI W) ms ca pe vi bc bs ec ep ed k 0 0 := by
  have hW := J.1.2
  refine loop_0 (fun k i s => wL_law_537 post L xs J37 (nI W) x3 (nI t) kc ks (nI W) ms ca pe vi bc bs ec ep ed k s (nI i)) (fun i s => (s = 0 ∧ ∀ p, p < i → ms p = 0 ∧ ∀ w, w < W → ca (64 * w + p) = 0) ∨ (s = 1 ∧ ∃ p, p < 64 ∧ (¬ ms p = 0 ∨ ∃ w, w < W ∧ ¬ ca (64 * w + p) = 0))) 64 0 (Or.inl ⟨rfl, fun p h => absurd h (by omega)⟩) ?_ ?_
  · intro k s hs
    exact pk_le 64 64 (fun _ => pl_659 hj J hs hJ) (fun z => absurd z (by omega))
  · intro k i s hi hs hn
    have G : ∀ x10 : Int32, (¬ x10 = 0 → ∀ w, w < W → ∃ p, p < 64 ∧ ¬ vi (64 * w + p) ≤ 0 ∧ pt_cr p (i / 16) (i / 4 % 4) (i % 4)) →
        wpX_messages (fun r => (r = 0 → ∃ k', wL_law_595 post L xs J37 (wL_law_537 post L xs J37 (nI W) x3 (nI t) kc ks (nI W) ms ca pe vi bc bs ec ep ed k) (nI W) x3 (nI t) (nI i) (nI (i / 16)) (nI (i / 4 % 4)) (nI (i % 4)) x10 kc ks (nI W) ms ca pe vi bc bs ec ep ed k' s 0) ∧ (¬ r = 0 → ∃ k', wL_law_595 post L xs J37 (wL_law_537 post L xs J37 (nI W) x3 (nI t) kc ks (nI W) ms ca pe vi bc bs ec ep ed k) (nI W) x3 (nI t) (nI i) (nI (i / 16)) (nI (i / 4 % 4)) (nI (i % 4)) x10 kc ks (nI W) ms ca pe vi bc bs ec ep ed k' 1 0)) (nI W, ms, ca, pe, vi, bc, bs, ec, ep, ed) (nI (i / 16)) (nI (i / 4 % 4)) (nI (i % 4)) := by
      intro x10 hcr
      refine px_msgC (by omega) (by omega) (by omega) ?_
      rw [pl_at i hi]
      refine br_c (fun z => pl_595 hW hi hcr (fun g => hn _ ?_) (fun g => hn _ (Or.inr ⟨rfl, i, hi, Or.inr g⟩))) (fun z => pl_595 hW hi hcr (fun _ => hn _ (Or.inr ⟨rfl, i, hi, Or.inl z⟩)) (fun _ => hn _ (Or.inr ⟨rfl, i, hi, Or.inl z⟩)))
      rcases hs with ⟨rfl, y⟩ | ⟨rfl, y⟩
      · refine Or.inl ⟨rfl, fun p hp => ?_⟩
        by_cases e : p = i
        · rw [e]; exact ⟨z, g⟩
        · exact y p (by omega)
      · exact Or.inr ⟨rfl, y⟩
    refine pk_le 64 i (fun z => absurd z (by omega)) (fun _ => nm_r (pl_b4 hi) (nm_r (pl_b2 hi) (nm_r (pl_b0 hi) ?_)))
    refine px_couldArrive (k := j + 1) hW (by omega) (by omega) (by omega) (by omega) J.2.1 J.2.2.1 (fun a => G 1 (fun _ w hw => ?_)) (fun _ => G 0 (fun n => absurd rfl n))
    obtain ⟨p, hp, g1, g2⟩ := a
    obtain ⟨q, hq, l1, hv⟩ := pq_J_safe (by omega) J hw hp (pl_occ g1)
    have hle : pq_le p i := g2
    exact ⟨q, hq, Int32.not_le.mpr (pl_pos hv), pq_trans hq hp hi l1 hle⟩
/-! the law: a step -/
theorem pl_301 {x4 x9 x13 : Int32} {w q : Nat} (hj : j < 890) (J : pq_J W j ms ca pe vi bc bs ec ep ed) (hw : w < W) (hq : q < 64)
    (hK : ∀ ms' ca' pe' vi' bc' bs' ec' ep' ed', pq_J W (j + 2) ms' ca' pe' vi' bc' bs' ec' ep' ed' → ∃ k, wL_law_537 post L xs J37 (nI W) x3 x4 kc ks (nI W) ms' ca' pe' vi' bc' bs' ec' ep' ed' k 0 0) :
    wL_law_301 post L xs J37 (nI W) x3 x4 x9 (nI w) x13 (nI q) kc ks (nI W) ms ca pe vi bc bs ec ep ed := by
  have sd : ∀ d, d < 4 → wL_law_370 post L xs J37 (nI W) x3 x4 (nI w) (nI (q / 4 % 4)) (nI (q % 4)) (nI d) kc ks (nI W) ms ca pe vi bc bs ec ep ed := by
    intro d hd
    unfold wL_law_370
    exact pl_send hj J hw hd (by omega) (by omega) (fun _ _ _ _ _ _ _ _ _ _ J' => hK _ _ _ _ _ _ _ _ _ J')
  obtain ⟨d, hd, ed'⟩ := pl_and3 x9
  unfold wL_law_301
  refine nm_r (pl_b4 hq) (nm_r (pl_b2 hq) (nm_r (pl_b0 hq) (br_c (fun _ => br_c (fun _ => sd 0 (by omega)) (fun _ => br_c (fun _ => sd 1 (by omega)) (fun _ => br_c (fun _ => br_c (fun _ => sd 2 (by omega)) (fun _ => sd 3 (by omega))) (fun _ => ?_)))) (fun _ => br_c (fun _ => ?_) (fun _ => ?_)))))
  · rw [ed']; exact sd d hd
  · exact pl_recv hj J hw (by omega) (by omega) (by omega) (fun _ _ _ _ _ _ _ _ _ _ J' => hK _ _ _ _ _ _ _ _ _ J')
  · exact pl_drop hj J hw (by omega) (by omega) (by omega) (fun _ _ _ _ _ _ _ _ _ _ J' => hK _ _ _ _ _ _ _ _ _ J')
theorem pl_282 {x4 x8 x9 x13 x14 : Int32} {w : Nat} (hj : j < 890) (J : pq_J W j ms ca pe vi bc bs ec ep ed) (hw : w < W) (hx : x14 = -1 ∨ ∃ q, q < 64 ∧ x14 = nI q)
    (hK : ∀ ms' ca' pe' vi' bc' bs' ec' ep' ed', pq_J W (j + 2) ms' ca' pe' vi' bc' bs' ec' ep' ed' → ∃ k, wL_law_537 post L xs J37 (nI W) x3 x4 kc ks (nI W) ms' ca' pe' vi' bc' bs' ec' ep' ed' k 0 0) :
    wL_law_282 post L xs J37 (nI W) x3 x4 x8 x9 (nI w) x13 x14 kc ks (nI W) ms ca pe vi bc bs ec ep ed := by
  unfold wL_law_282
  rcases hx with rfl | ⟨q, hq, rfl⟩
  · obtain ⟨q, hq, e⟩ := pl_or x9 x8
    exact br_f (by decide) (nm_r e (pl_301 hj J hw hq hK))
  · exact br_t (nI_pos' (by omega)) (pl_301 hj J hw hq hK)
theorem pl_156 {x4 x8 x9 x12 x13 : Int32} {w : Nat} (hj : j < 890) (J : pq_J W j ms ca pe vi bc bs ec ep ed) (hw : w < W)
    (hK : ∀ ms' ca' pe' vi' bc' bs' ec' ep' ed', pq_J W (j + 2) ms' ca' pe' vi' bc' bs' ec' ep' ed' → ∃ k, wL_law_537 post L xs J37 (nI W) x3 x4 kc ks (nI W) ms' ca' pe' vi' bc' bs' ec' ep' ed' k 0 0) :
    ∃ k, wL_law_156 post L xs J37 (nI W) x3 x4 x8 x9 (nI w) x12 x13 kc ks (nI W) ms ca pe vi bc bs ec ep ed k (-1) 0 := by
  have hW := J.1.2
  refine loop_0 (fun k i s => wL_law_156 post L xs J37 (nI W) x3 x4 x8 x9 (nI w) x12 x13 kc ks (nI W) ms ca pe vi bc bs ec ep ed k s (nI i)) (fun i s => s = -1 ∨ ∃ q, q < 64 ∧ s = nI q) 64 (-1) (Or.inl rfl) ?_ ?_
  · intro k s hs
    exact pk_le 64 64 (fun _ => pl_282 hj J hw hs hK) (fun z => absurd z (by omega))
  · intro k i s hi hs hn
    obtain ⟨q, hq, e⟩ := pl_and63 (x12 + nI i)
    have hq' : (nI q : Int32) = -1 ∨ ∃ q', q' < 64 ∧ nI q = nI q' := Or.inr ⟨q, hq, rfl⟩
    have a251 : ∀ s', (s' = -1 ∨ ∃ q, q < 64 ∧ s' = nI q) → wL_law_251 post L xs J37 (wL_law_156 post L xs J37 (nI W) x3 x4 x8 x9 (nI w) x12 x13 kc ks (nI W) ms ca pe vi bc bs ec ep ed k) (nI W) x3 x4 x8 x9 (nI w) x12 x13 s' (nI i) (nI q) (nI (q / 16)) (nI (q / 4 % 4)) (nI (q % 4)) kc ks (nI W) ms ca pe vi bc bs ec ep ed := by
      intro s' hs'
      unfold wL_law_251
      refine br_c (fun _ => px_capC hW hw (by omega) (by omega) (by omega) (br_c (fun _ => nm_r (nI_1 i) (hn _ hs')) (fun _ => nm_r (nI_1 i) (hn _ hq')))) (fun _ => nm_r (nI_1 i) (hn _ hs'))
    have a228 : ∀ s', (s' = -1 ∨ ∃ q, q < 64 ∧ s' = nI q) → wL_law_228 post L xs J37 (wL_law_156 post L xs J37 (nI W) x3 x4 x8 x9 (nI w) x12 x13 kc ks (nI W) ms ca pe vi bc bs ec ep ed k) (nI W) x3 x4 x8 x9 (nI w) x12 x13 s' (nI i) (nI q) (nI (q / 16)) (nI (q / 4 % 4)) (nI (q % 4)) kc ks (nI W) ms ca pe vi bc bs ec ep ed := by
      intro s' hs'
      unfold wL_law_228
      exact br_c (fun _ => px_msgC (by omega) (by omega) (by omega) (br_c (fun _ => a251 _ hs') (fun _ => a251 _ hq'))) (fun _ => a251 _ hs')
    refine pk_le 64 i (fun z => absurd z (by omega)) (fun _ => br_c (fun _ => pl_282 hj J hw hs hK) (fun _ => nm_r e (nm_r (pl_b4 hq) (nm_r (pl_b2 hq) (nm_r (pl_b0 hq) ?_)))))
    exact br_c (fun _ => br_c (fun _ => a228 _ hs) (fun _ => px_capC hW hw (by omega) (by omega) (by omega) (br_c (fun _ => a228 _ hs) (fun _ => a228 _ hq')))) (fun _ => a228 _ hs)
theorem pl_442 {x4 x8 : Int32} {w e : Nat} (hj : j < 890) (J : pq_J W j ms ca pe vi bc bs ec ep ed) (hw : w < W) (he : e < 4)
    (hK : ∀ ms' ca' pe' vi' bc' bs' ec' ep' ed', pq_J W (j + 2) ms' ca' pe' vi' bc' bs' ec' ep' ed' → ∃ k, wL_law_537 post L xs J37 (nI W) x3 x4 kc ks (nI W) ms' ca' pe' vi' bc' bs' ec' ep' ed' k 0 0) :
    ∃ k, wL_law_442 post L xs J37 (nI W) x3 x4 x8 (nI w) (nI e) kc ks (nI W) ms ca pe vi bc bs ec ep ed k 0 := by
  have hW := J.1.2
  have adv : ∀ e, e < 4 → wL_law_483 post L xs J37 (nI W) x3 x4 (nI w) (nI e) kc ks (nI W) ms ca pe vi bc bs ec ep ed := by
    intro e he
    unfold wL_law_483
    exact pl_adv hj J hw he (fun _ _ _ _ _ _ _ _ _ _ J' => hK _ _ _ _ _ _ _ _ _ J')
  refine loop_0 (σ := Unit) (fun k i _ => wL_law_442 post L xs J37 (nI W) x3 x4 x8 (nI w) (nI e) kc ks (nI W) ms ca pe vi bc bs ec ep ed k (nI i)) (fun _ _ => True) 4 () trivial ?_ ?_
  · intro k _ _
    exact pk_le 4 4 (fun _ => adv e he) (fun z => absurd z (by omega))
  · intro k i _ hi _ hn
    obtain ⟨d, hd, ed'⟩ := pl_and3 (x8 + nI i)
    exact pk_le 4 i (fun z => absurd z (by omega)) (fun _ => nm_r ed' (px_capC (a := 0) (r := 0) hW hw (by omega) hd (by omega) (br_c (fun _ => nm_r (nI_1 i) (hn () trivial)) (fun _ => adv d hd))))
end
theorem pl_cell {post : Int32 → Prop} {L b : Nat} {xs : Nat → Int32} (hL : L ≤ 260) (hb : b < 1000) (h : ∀ v, post v) : wpL_cell post L xs () (nI b) :=
  pk_le L b (fun _ => h _) (fun z => ⟨vp_in_nI z (by omega), h _⟩)
theorem pl_main {post : Int32 → Prop} {L W T kc ks : Nat} {xs ms ca pe vi bc bs ec ep ed : Nat → Int32} (hL : L ≤ 260) (hT : T ≤ 65) (h1 : post 1) (J : pq_J W 0 ms ca pe vi bc bs ec ep ed) :
    ∃ k, wL_law_37 post L xs (nI W) (nI T) kc ks k 0 (nI W) ms ca pe vi bc bs ec ep ed := by
  have hW := J.1.2
  have hW1 := J.1.1
  refine loop_0 (fun k i (s : (Nat → Int32) × (Nat → Int32) × (Nat → Int32) × (Nat → Int32) × (Nat → Int32) × (Nat → Int32) × (Nat → Int32) × (Nat → Int32) × (Nat → Int32)) => wL_law_37 post L xs (nI W) (nI T) kc ks k (nI i) (nI W) s.1 s.2.1 s.2.2.1 s.2.2.2.1 s.2.2.2.2.1 s.2.2.2.2.2.1 s.2.2.2.2.2.2.1 s.2.2.2.2.2.2.2.1 s.2.2.2.2.2.2.2.2)
    (fun i s => pq_J W (2 * i) s.1 s.2.1 s.2.2.1 s.2.2.2.1 s.2.2.2.2.1 s.2.2.2.2.2.1 s.2.2.2.2.2.2.1 s.2.2.2.2.2.2.2.1 s.2.2.2.2.2.2.2.2) (T + 1) (ms, ca, pe, vi, bc, bs, ec, ep, ed) J ?_ ?_
  · intro k s _
    exact pk_lt T (T + 1) (fun _ => h1) (fun z => absurd z (by omega))
  · rintro k i ⟨ms, ca, pe, vi, bc, bs, ec, ep, ed⟩ hi J hn
    dsimp only at J hn ⊢
    have hK : ∀ ms' ca' pe' vi' bc' bs' ec' ep' ed', pq_J W (2 * i + 2) ms' ca' pe' vi' bc' bs' ec' ep' ed' → ∃ k', wL_law_537 post L xs (wL_law_37 post L xs (nI W) (nI T) kc ks k) (nI W) (nI T) (nI i) kc ks (nI W) ms' ca' pe' vi' bc' bs' ec' ep' ed' k' 0 0 :=
      fun ms' ca' pe' vi' bc' bs' ec' ep' ed' J' => pl_check (j := 2 * i + 2) (by omega) J' (hn (ms', ca', pe', vi', bc', bs', ec', ep', ed') J')
    have hW0 : ¬ nI W = 0 := nI_ne0 (by omega) (by omega)
    refine pk_lt T i (fun z => absurd z (by omega)) (fun _ => pk_le i 0 (fun _ => hK _ _ _ _ _ _ _ _ _ (pq_J_mono (by omega) J)) (fun z => ?_))
    obtain ⟨i', rfl⟩ : ∃ i', i = i' + 1 := ⟨i - 1, by omega⟩
    have e5 : 1 + 4 * (nI (i' + 1) - 1) = nI (1 + 4 * i') := by
      rw [nI_pred, show (4 : Int32) = nI 4 from rfl, show (1 : Int32) = nI 1 from rfl, pk_mul, nI_add]
    refine nm_r e5 ?_
    rw [nI_1, show nI (1 + 4 * i') + 2 = nI (1 + 4 * i' + 2) from nI_add _ 2, show nI (1 + 4 * i') + 3 = nI (1 + 4 * i' + 3) from nI_add _ 3]
    refine pl_cell hL (by omega) (fun a => pl_cell hL (by omega) (fun b => pl_cell hL (by omega) (fun c => pl_cell hL (by omega) (fun d => ?_))))
    obtain ⟨w, hw, ew⟩ := pl_mod hW1 hW b
    obtain ⟨e, he, ee⟩ := pl_and3 c
    obtain ⟨r, hr, er⟩ := pl_mod hW1 hW c
    refine nm_e ⟨hW0, nm_r ew (nm_e (br_c (fun _ => br_c (fun _ => ?_) (fun _ => br_c (fun _ => ?_) (fun _ => ?_))) (fun _ => br_c (fun _ => br_c (fun _ => ?_) (fun _ => ?_)) (fun _ => ?_))))⟩
    · exact nm_r ee (pl_442 (by omega) J hw he hK)
    · exact ⟨hW0, nm_r er (pl_deliver J hw hr (fun _ _ _ _ _ _ _ _ _ _ J' => hK _ _ _ _ _ _ _ _ _ J'))⟩
    · exact pl_bcast J hw (fun _ _ _ _ _ _ _ _ _ _ J' => hK _ _ _ _ _ _ _ _ _ J')
    · exact pl_156 (by omega) J hw hK
    · exact pl_156 (by omega) J hw hK
    · exact pl_156 (by omega) J hw hK
