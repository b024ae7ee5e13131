theorem pq_ring2 {v S b R : Int32} (h : v + (S + b) = R) : v + b + S = R := by
  rw [← h, Int32.add_assoc, Int32.add_comm b S]
theorem pq_J_deliver {W j s0 r0 : Nat} {ms ca pe vi bc bs ec ep ed : Nat → Int32} (J : pq_J W j ms ca pe vi bc bs ec ep ed) (hs : s0 < W) (hr : r0 < W) :
    bc (4 * s0 + r0) = 0 ∨ ∃ a l, pt_ch (a :: l) (4 * s0 + r0) bc bs ec ∧
      pq_J W j ms ca pe (pt_vw ep ed (32 * (4 * s0 + r0)) (64 * r0) vi a) (upd bc (4 * s0 + r0) (nI l.length)) (pt_sh 1 (32 * (4 * s0 + r0)) bs l.length) (upd ec (4 * s0 + r0) (nI (pt_sum l))) (pt_sh a (32 * (4 * s0 + r0)) ep (pt_sum l)) (pt_sh a (32 * (4 * s0 + r0)) ed (pt_sum l)) := by
  obtain ⟨g1, g2, g3, g4, L, B, g5, g7, g6⟩ := J
  have k0 := g5 (4 * s0 + r0) (by omega)
  have u0 := g7 s0 hs r0 hr
  cases hL : L (4 * s0 + r0) with
  | nil =>
    rw [hL] at k0
    exact Or.inl k0.1.2.2.1
  | cons a l =>
    rw [hL] at k0
    cases hB : B (4 * s0 + r0) with
    | nil => rw [hB] at k0; exact k0.2.elim
    | cons B0 Bs =>
      rw [hB] at k0 u0
      obtain ⟨c0, b0⟩ := k0
      have hsum : a + pt_sum l ≤ 32 := c0.2.1
      have hlen : l.length ≤ pt_sum l := pt_len_sum (pt_all1_c c0.1).2
      refine Or.inr ⟨a, l, c0, g1, g2, g3, pt_sh_in g4 _, fun c => if c = 4 * s0 + r0 then l else L c, fun c => if c = 4 * s0 + r0 then Bs else B c, fun c hc => ?_, fun s hs' r hr' => ?_, fun r hr' p hp => ?_⟩
      · dsimp only
        by_cases e : c = 4 * s0 + r0
        · rw [if_pos e, if_pos e, e]
          refine ⟨pt_ch_tail c0 pk_us pk_us (fun j hj => pt_sh_at hj), pq_bat_cong (o := 32 * (4 * s0 + r0) + a) (fun j hj => ?_) b0.2⟩
          rw [pt_sh_at hj, pt_sh_at hj, show 32 * (4 * s0 + r0) + j + a = 32 * (4 * s0 + r0) + a + j by omega]
          exact ⟨rfl, rfl⟩
        · rw [if_neg e, if_neg e]
          obtain ⟨x, y⟩ := g5 c hc
          have hxl := pt_ch_len x
          have hxs := x.2.1
          refine ⟨pt_ch_cong x (pk_un e) (pk_un e) (fun j hj => ?_), pq_bat_cong (fun j hj => ?_) y⟩
          · rcases Nat.lt_or_gt_of_ne e with q | q
            · exact pt_sh_lt (by omega)
            · exact pt_sh_ge (by omega)
          · rcases Nat.lt_or_gt_of_ne e with q | q
            · exact ⟨pt_sh_lt (by omega), pt_sh_lt (by omega)⟩
            · exact ⟨pt_sh_ge (by omega), pt_sh_ge (by omega)⟩
      · dsimp only
        by_cases e : 4 * s + r = 4 * s0 + r0
        · rw [if_pos e, show s = s0 by omega]
          exact u0.2
        · rw [if_neg e]
          exact g7 s hs' r hr'
      · by_cases e : r = r0
        · subst e
          rw [pq_vw_at, ← b0.1 p hp]
          apply pq_ring2
          rw [← g6 r hr' p hp]
          congr 1
          symm
          refine pq_is_one (s := s0) ?_ hs (fun i hi hne => ?_)
          · dsimp only
            rw [if_pos rfl, hB]
            exact Int32.add_comm _ _
          · dsimp only
            rw [if_neg (by omega)]
        · rw [pq_vw_out g4 (by omega), ← g6 r hr' p hp]
          congr 1
          refine pq_is_cong (fun i hi => ?_)
          dsimp only
          rw [if_neg (by omega)]
theorem pq_bat_bL {pend : Nat → Int32} {w n : Nat} {Ls : Nat → List Nat} {Bs : Nat → List (Nat → Int32)} {bc bs ec ep ed : Nat → Int32} (hw : w < 4) (hn : 1 ≤ n) (hp : pt_cnt pend (64 * w) 64 = n)
    (h : ∀ c, c < 16 → pt_ch (Ls c) c bc bs ec) (hb : ∀ c, c < 16 → pq_bat ep ed (32 * c) (Ls c) (Bs c)) :
    ∀ {R : Nat}, R ≤ 4 → (∀ r, r < R → pt_sum (Ls (4 * w + r)) + n ≤ 32) → ∀ c, c < 16 → pq_bat (pt_bep pend w n ec ep R) (pt_bed pend w n ec ed R) (32 * c) (pt_bL w n Ls R c) (if 4 * w ≤ c ∧ c < 4 * w + R then Bs c ++ [fun p => pend (64 * w + p)] else Bs c) := by
  intro R
  induction R with
  | zero =>
    intro _ _ c hc
    show pq_bat ep ed (32 * c) (if 4 * w ≤ c ∧ c < 4 * w + 0 then Ls c ++ [n] else Ls c) _
    rw [if_neg (by omega), if_neg (by omega)]
    exact hb c hc
  | succ R ih =>
    intro hR hr c hc
    have k := ih (by omega) (fun r hr' => hr r (by omega))
    have kc := pt_bch hw hn h (R := R) (by omega) (fun r hr' => hr r (by omega))
    have k0 := kc (4 * w + R) (by omega)
    rw [pt_bL_at] at k0
    have hroom := hr R (by omega)
    have e1 : (pt_bec w n ec R (4 * w + R)).toNatClampNeg = pt_sum (Ls (4 * w + R)) := by rw [k0.2.2.2.1, nI_clamp (by omega)]
    show pq_bat (pt_ep pend (64 * w) (32 * (4 * w + R) + (pt_bec w n ec R (4 * w + R)).toNatClampNeg) (pt_bep pend w n ec ep R) 64) (pt_ed pend (64 * w) (32 * (4 * w + R) + (pt_bec w n ec R (4 * w + R)).toNatClampNeg) (pt_bed pend w n ec ed R) 64) _ _ _
    rw [e1, pt_bL_s]
    by_cases e : c = 4 * w + R
    · subst e
      have kk := k (4 * w + R) hc
      rw [pt_bL_at, if_neg (by omega)] at kk
      rw [if_pos rfl, pt_bL_at, if_pos (by omega)]
      refine pq_bat_app (pq_bat_cong (fun j hj => ⟨pq_ep_out (by omega), pq_ed_out (by omega)⟩) kk) (fun p hp' => ?_)
      rw [← hp, pq_acc_app (Nat.le_refl 64), if_pos hp']
    · have kk := k c hc
      rw [if_neg e]
      have hx := (kc c hc).2.1
      have e2 : (if 4 * w ≤ c ∧ c < 4 * w + (R + 1) then Bs c ++ [fun p => pend (64 * w + p)] else Bs c) = (if 4 * w ≤ c ∧ c < 4 * w + R then Bs c ++ [fun p => pend (64 * w + p)] else Bs c) := by
        by_cases q : 4 * w ≤ c ∧ c < 4 * w + R
        · rw [if_pos q, if_pos (by omega)]
        · rw [if_neg q, if_neg (by omega)]
      rw [e2]
      refine pq_bat_cong (fun j hj => ?_) kk
      rcases Nat.lt_or_gt_of_ne e with q | q
      · exact ⟨pq_ep_out (by omega), pq_ed_out (by omega)⟩
      · exact ⟨pq_ep_out (by omega), pq_ed_out (by omega)⟩
theorem pq_J_bcast {W j w n : Nat} {ms ca pe vi bc bs ec ep ed : Nat → Int32} (J : pq_J W j ms ca pe vi bc bs ec ep ed) (hw : w < W) (hn : 1 ≤ n) (hp : pt_cnt pe (64 * w) 64 = n) (hroom : ∀ r l, r < W → pt_ch l (4 * w + r) bc bs ec → pt_sum l + n ≤ 32) :
    pq_J W j ms ca (pt_clr (64 * w) pe 64) vi (pt_bbc w bc W) (pt_bbs w n bc bs W) (pt_bec w n ec W) (pt_bep pe w n ec ep W) (pt_bed pe w n ec ed W) := by
  obtain ⟨g1, g2, g3, g4, L, B, g5, g7, g6⟩ := J
  have hr : ∀ r, r < W → pt_sum (L (4 * w + r)) + n ≤ 32 := fun r hr => hroom r _ hr (g5 (4 * w + r) (by omega)).1
  have z0 : ∀ p, p < 64 → pt_clr (64 * w) pe 64 (64 * w + p) = 0 := fun p hp => pt_clr_at hp
  have zn : ∀ s, s ≠ w → ∀ p, p < 64 → pt_clr (64 * w) pe 64 (64 * s + p) = pe (64 * s + p) := fun s hs p hp => pt_clr_out (by omega)
  refine ⟨g1, g2, g3, pt_bep_in g4 W, pt_bL w n L W, fun c => if 4 * w ≤ c ∧ c < 4 * w + W then B c ++ [fun p => pe (64 * w + p)] else B c, fun c hc => ⟨?_, ?_⟩, fun s hs r hr' => ?_, fun r hr' p hp' => ?_⟩
  · exact pt_bch (by omega) hn (fun c hc => (g5 c hc).1) (by omega) hr c hc
  · exact pq_bat_bL (by omega) hn hp (fun c hc => (g5 c hc).1) (fun c hc => (g5 c hc).2) (by omega) hr c hc
  · dsimp only
    by_cases e : s = w
    · subst e
      rw [if_pos (by omega)]
      exact pq_up_app z0 _ (g7 s hs r hr')
    · rw [if_neg (by omega)]
      exact pq_up_cong (Nat.le_refl j) (fun _ _ => rfl) (zn s e) (g7 s hs r hr')
  · rw [← g6 r hr' p hp']
    congr 1
    refine pq_is_cong (fun s hs => ?_)
    dsimp only
    by_cases e : s = w
    · subst e
      rw [if_pos (by omega), pq_D_same (g := fun _ => 0) (g' := fun p => pt_clr (64 * s) pe 64 (64 * s + p)) (z0 p hp') _, pq_D_app]
    · rw [if_neg (by omega)]
      exact pq_D_same (g := fun p => pe (64 * s + p)) (g' := fun p => pt_clr (64 * w) pe 64 (64 * s + p)) (zn s e p hp') _
/-- safety: what occurs is within every worker's view -/
theorem pq_J_safe {W j : Nat} {ms ca pe vi bc bs ec ep ed : Nat → Int32} (hj : j < 900) (J : pq_J W j ms ca pe vi bc bs ec ep ed) {r q : Nat} (hr : r < W) (hq : q < 64) (ho : ¬ ms q = 0 ∨ ∃ s, s < W ∧ ¬ ca (64 * s + q) = 0) : ∃ p, p < 64 ∧ pq_le p q ∧ 0 < (vi (64 * r + p)).toInt := by
  obtain ⟨g1, g2, g3, g4, L, B, g5, g7, g6⟩ := J
  have hb : ∀ (f : Nat → Int32), (∀ i, ∃ a, a ≤ j + 1 ∧ f i = nI a) → ∀ i, 0 ≤ (f i).toInt ∧ (f i).toInt ≤ 1000 := by
    intro f hf i
    obtain ⟨a, ha, e⟩ := hf i
    rw [e, nI_toInt (by omega)]
    omega
  have hpos : ∀ (f : Nat → Int32), (∀ i, ∃ a, a ≤ j + 1 ∧ f i = nI a) → ∀ i, ¬ f i = 0 → 0 < (f i).toInt := by
    intro f hf i hne
    obtain ⟨a, ha, e⟩ := hf i
    rw [e] at hne ⊢
    rw [nI_toInt (by omega)]
    have : a ≠ 0 := fun z => hne (by rw [z]; rfl)
    omega
  refine pq_safe (W := W) (j := j) (m := ms) (v := fun p => vi (64 * r + p)) (C := fun s p => ca (64 * s + p)) (D := fun s => pq_D (B (4 * s + r)) (fun p => pe (64 * s + p))) g1.2 (by omega) (fun p _ => hb ms g2 p) (fun s _ p _ => hb ca g3 _) (fun s hs => pq_up_h (g7 s hs r hr)) (fun p hp => g6 r hr p hp) hq ?_
  rcases ho with z | ⟨s, hs, z⟩
  · exact Or.inl (hpos ms g2 q z)
  · exact Or.inr ⟨s, hs, hpos ca g3 _ z⟩
/-- quiet, and nothing occurs: the views are 0 -/
theorem pq_J_quiet {W j : Nat} {ms ca pe vi bc bs ec ep ed : Nat → Int32} (J : pq_J W j ms ca pe vi bc bs ec ep ed) (hp : ∀ s, s < W → ∀ p, p < 64 → pe (64 * s + p) = 0) (hb : ∀ c, c < 16 → bc c = 0) (hm : ∀ p, p < 64 → ms p = 0) (hc : ∀ s, s < W → ∀ p, p < 64 → ca (64 * s + p) = 0) {r p : Nat} (hr : r < W) (hpp : p < 64) : vi (64 * r + p) = 0 := by
  obtain ⟨g1, g2, g3, g4, L, B, g5, g7, g6⟩ := J
  have k := g6 r hr p hpp
  have z : ∀ (g : Nat → Int32) (n : Nat), (∀ i, i < n → g i = 0) → pq_is g n = 0 := by
    intro g n h
    induction n with
    | zero => rfl
    | succ n ih =>
      show pq_is g n + g n = 0
      rw [ih (fun i hi => h i (by omega)), h n (by omega)]
      rfl
  rw [z _ W (fun s hs => ?_), z _ W (fun s hs => hc s hs p hpp), hm p hpp, Int32.add_zero] at k
  · exact k
  · obtain ⟨x, y⟩ := g5 (4 * s + r) (by omega)
    have e : L (4 * s + r) = [] := by
      have h1 := x.2.2.1
      have h2 := pt_ch_len x
      rw [hb _ (by omega), ← nI_0, nI_eq (by omega) (by omega)] at h1
      exact List.eq_nil_of_length_eq_zero h1.symm
    rw [e] at y
    cases hB : B (4 * s + r) with
    | nil => exact hp s hs p hpp
    | cons b l => rw [hB] at y; exact y.elim
