/-! the owed statements, a method each -/
theorem i_vc_send {k : Nat} {u : SX} {v : SY} (I : i_Rel k u v) (hk : k + 5 ≤ 2561) (v1 : Int32) (v2 : Int32) (v3 : Int32) (v4 : Int32) : wpX_send (fun r u' => wpY_send (fun r' v' => r' = r ∧ i_Rel (k + 5) u' v') v v1 v2 v3 v4) u v1 v2 v3 v4 := by
  obtain ⟨W, ms, ca, pe, vi, bc, bs, ec, ep, ed, st, Ls, rfl, rfl, R⟩ := I
  have hW : W ≤ 4 := R.1.2
  have same : i_Rel (k + 5) (nI W, ms, ca, pe, vi, bc, bs, ec, ep, ed) (nI W, ms, ca, pe, vi, ep, ed, st, ec) := ⟨W, ms, ca, pe, vi, bc, bs, ec, ep, ed, st, Ls, rfl, rfl, pt_R_up (by omega) R⟩
  by_cases hok : pt_okW W v1 ∧ pt_ok v2 ∧ pt_ok v3 ∧ pt_ok v4
  · obtain ⟨⟨w, hw, rfl⟩, ⟨d, hd, rfl⟩, ⟨e, he, rfl⟩, ⟨r, hr, rfl⟩⟩ := hok
    have ht := pt_to_lt d
    refine px_send hW hw hd he hr (fun a => ?_) (fun n z => ?_) (fun n y x => ?_) (fun n y x => ?_)
    · exact py_send hW hw hd he hr (fun _ => ⟨rfl, same⟩) (fun n _ => absurd a n) (fun n _ _ => absurd a n) (fun n _ _ => absurd a n)
    · exact py_send hW hw hd he hr (fun a => absurd a n) (fun _ _ => ⟨rfl, same⟩) (fun _ y _ => absurd z (by omega)) (fun _ y _ => absurd z (by omega))
    · exact py_send hW hw hd he hr (fun a => absurd a n) (fun _ z => absurd z (by omega)) (fun _ _ _ => ⟨rfl, same⟩) (fun _ _ x' => absurd x (by omega))
    · refine py_send hW hw hd he hr (fun a => absurd a n) (fun _ z => absurd z (by omega)) (fun _ _ x' => absurd x (by omega)) (fun _ _ _ => ⟨rfl, ?_⟩)
      obtain ⟨R1, R2, R3, R4, R5, R6⟩ := R
      exact ⟨W, _, _, _, _, _, _, _, _, _, _, Ls, rfl, rfl, R1, pt_bd_u (pt_bd_p R2) (by omega), pt_bd_u R3 (by omega), fun i hi => ⟨(R4 i hi).1, by rw [pk_un (by omega)]; exact (R4 i hi).2⟩, R5, R6⟩
  · unfold wpX_send
    refine px_g4 hW (fun _ => ?_) (fun a b c d => absurd ⟨a, b, c, d⟩ hok)
    unfold wpY_send
    exact py_g4 hW (fun _ => ⟨rfl, same⟩) (fun a b c d => absurd ⟨a, b, c, d⟩ hok)
theorem i_vc_receive {k : Nat} {u : SX} {v : SY} (I : i_Rel k u v) (hk : k + 5 ≤ 2561) (v1 : Int32) (v2 : Int32) (v3 : Int32) (v4 : Int32) : wpX_receive (fun r u' => wpY_receive (fun r' v' => r' = r ∧ i_Rel (k + 5) u' v') v v1 v2 v3 v4) u v1 v2 v3 v4 := by
  obtain ⟨W, ms, ca, pe, vi, bc, bs, ec, ep, ed, st, Ls, rfl, rfl, R⟩ := I
  have hW : W ≤ 4 := R.1.2
  have same : i_Rel (k + 5) (nI W, ms, ca, pe, vi, bc, bs, ec, ep, ed) (nI W, ms, ca, pe, vi, ep, ed, st, ec) := ⟨W, ms, ca, pe, vi, bc, bs, ec, ep, ed, st, Ls, rfl, rfl, pt_R_up (by omega) R⟩
  by_cases hok : pt_okW W v1 ∧ pt_ok v2 ∧ pt_ok v3 ∧ pt_ok v4
  · obtain ⟨⟨w, hw, rfl⟩, ⟨d, hd, rfl⟩, ⟨e, he, rfl⟩, ⟨r, hr, rfl⟩⟩ := hok
    refine px_receive hW hw hd he hr (fun a => ?_) (fun n => ?_)
    · exact py_receive hW hw hd he hr (fun _ => ⟨rfl, same⟩) (fun n => absurd a n)
    · refine py_receive hW hw hd he hr (fun a => absurd a n) (fun _ => ⟨rfl, ?_⟩)
      obtain ⟨R1, R2, R3, R4, R5, R6⟩ := R
      exact ⟨W, _, _, _, _, _, _, _, _, _, _, Ls, rfl, rfl, R1, pt_bd_u (pt_bd_m R2 n) (by omega), pt_bd_u (pt_bd_p R3) (by omega), fun i hi => ⟨by rw [pk_un (by omega)]; exact (R4 i hi).1, (R4 i hi).2⟩, R5, R6⟩
  · unfold wpX_receive
    refine px_g4 hW (fun _ => ?_) (fun a b c d => absurd ⟨a, b, c, d⟩ hok)
    unfold wpY_receive
    exact py_g4 hW (fun _ => ⟨rfl, same⟩) (fun a b c d => absurd ⟨a, b, c, d⟩ hok)
theorem i_vc_drop {k : Nat} {u : SX} {v : SY} (I : i_Rel k u v) (hk : k + 5 ≤ 2561) (v1 : Int32) (v2 : Int32) (v3 : Int32) (v4 : Int32) : wpX_drop (fun r u' => wpY_drop (fun r' v' => r' = r ∧ i_Rel (k + 5) u' v') v v1 v2 v3 v4) u v1 v2 v3 v4 := by
  obtain ⟨W, ms, ca, pe, vi, bc, bs, ec, ep, ed, st, Ls, rfl, rfl, R⟩ := I
  have hW : W ≤ 4 := R.1.2
  have same : i_Rel (k + 5) (nI W, ms, ca, pe, vi, bc, bs, ec, ep, ed) (nI W, ms, ca, pe, vi, ep, ed, st, ec) := ⟨W, ms, ca, pe, vi, bc, bs, ec, ep, ed, st, Ls, rfl, rfl, pt_R_up (by omega) R⟩
  by_cases hok : pt_okW W v1 ∧ pt_ok v2 ∧ pt_ok v3 ∧ pt_ok v4
  · obtain ⟨⟨w, hw, rfl⟩, ⟨d, hd, rfl⟩, ⟨e, he, rfl⟩, ⟨r, hr, rfl⟩⟩ := hok
    refine px_drop hW hw hd he hr (fun a => ?_) (fun n x => ?_) (fun n x => ?_)
    · exact py_drop hW hw hd he hr (fun _ => ⟨rfl, same⟩) (fun n _ => absurd a n) (fun n _ => absurd a n)
    · exact py_drop hW hw hd he hr (fun a => absurd a n) (fun _ _ => ⟨rfl, same⟩) (fun _ x' => absurd x (by omega))
    · refine py_drop hW hw hd he hr (fun a => absurd a n) (fun _ x' => absurd x (by omega)) (fun _ _ => ⟨rfl, ?_⟩)
      obtain ⟨R1, R2, R3, R4, R5, R6⟩ := R
      exact ⟨W, _, _, _, _, _, _, _, _, _, _, Ls, rfl, rfl, R1, pt_bd_u R2 (by omega), pt_bd_u (pt_bd_m R3 n) (by omega), fun i hi => ⟨by rw [pk_un (by omega)]; exact (R4 i hi).1, by rw [pk_un (by omega)]; exact (R4 i hi).2⟩, R5, R6⟩
  · unfold wpX_drop
    refine px_g4 hW (fun _ => ?_) (fun a b c d => absurd ⟨a, b, c, d⟩ hok)
    unfold wpY_drop
    exact py_g4 hW (fun _ => ⟨rfl, same⟩) (fun a b c d => absurd ⟨a, b, c, d⟩ hok)
theorem i_vc_advanceInput {k : Nat} {u : SX} {v : SY} (I : i_Rel k u v) (hk : k + 5 ≤ 2561) (v1 : Int32) (v2 : Int32) : wpX_advanceInput (fun r u' => wpY_advanceInput (fun r' v' => r' = r ∧ i_Rel (k + 5) u' v') v v1 v2) u v1 v2 := by
  obtain ⟨W, ms, ca, pe, vi, bc, bs, ec, ep, ed, st, Ls, rfl, rfl, R⟩ := I
  have hW : W ≤ 4 := R.1.2
  have same : i_Rel (k + 5) (nI W, ms, ca, pe, vi, bc, bs, ec, ep, ed) (nI W, ms, ca, pe, vi, ep, ed, st, ec) := ⟨W, ms, ca, pe, vi, bc, bs, ec, ep, ed, st, Ls, rfl, rfl, pt_R_up (by omega) R⟩
  by_cases hok : pt_okW W v1 ∧ pt_ok v2
  · obtain ⟨⟨w, hw, rfl⟩, ⟨e, he, rfl⟩⟩ := hok
    refine px_adv hW hw he (fun a => ?_) (fun n z => ?_) (fun n y x => ?_) (fun n y x => ?_)
    · exact py_adv hW hw he (fun _ => ⟨rfl, same⟩) (fun n _ => absurd a n) (fun n _ _ => absurd a n) (fun n _ _ => absurd a n)
    · exact py_adv hW hw he (fun a => absurd a n) (fun _ _ => ⟨rfl, same⟩) (fun _ y _ => absurd z (by omega)) (fun _ y _ => absurd z (by omega))
    · exact py_adv hW hw he (fun a => absurd a n) (fun _ z => absurd z (by omega)) (fun _ _ _ => ⟨rfl, same⟩) (fun _ _ x' => absurd x (by omega))
    · refine py_adv hW hw he (fun a => absurd a n) (fun _ z => absurd z (by omega)) (fun _ _ x' => absurd x (by omega)) (fun _ _ _ => ⟨rfl, ?_⟩)
      obtain ⟨R1, R2, R3, R4, R5, R6⟩ := R
      exact ⟨W, _, _, _, _, _, _, _, _, _, _, Ls, rfl, rfl, R1, pt_bd_u R2 (by omega), pt_bd_u (pt_bd_p (pt_bd_m R3 n)) (by omega), fun i hi => ⟨by rw [pk_un (by omega), pk_un (by omega)]; exact (R4 i hi).1, by rw [pk_un (by omega), pk_un (by omega)]; exact (R4 i hi).2⟩, R5, R6⟩
  · unfold wpX_advanceInput
    refine px_g2 hW (fun _ => ?_) (fun a b => absurd ⟨a, b⟩ hok)
    unfold wpY_advanceInput
    exact py_g2 hW (fun _ => ⟨rfl, same⟩) (fun a b => absurd ⟨a, b⟩ hok)
theorem i_vc_broadcast {k : Nat} {u : SX} {v : SY} (I : i_Rel k u v) (hk : k + 5 ≤ 2561) (v1 : Int32) : wpX_broadcast (fun r u' => wpY_broadcast (fun r' v' => r' = r ∧ i_Rel (k + 5) u' v') v v1) u v1 := by
  obtain ⟨W, ms, ca, pe, vi, bc, bs, ec, ep, ed, st, Ls, rfl, rfl, R⟩ := I
  have hW : W ≤ 4 := R.1.2
  have same : i_Rel (k + 5) (nI W, ms, ca, pe, vi, bc, bs, ec, ep, ed) (nI W, ms, ca, pe, vi, ep, ed, st, ec) := ⟨W, ms, ca, pe, vi, bc, bs, ec, ep, ed, st, Ls, rfl, rfl, pt_R_up (by omega) R⟩
  by_cases hok : pt_okW W v1
  · obtain ⟨w, hw, rfl⟩ := hok
    have hx : ∀ r, r < W → ∃ l, pt_ch l (4 * w + r) bc bs ec := fun r hr => ⟨Ls (4 * w + r), (R.2.2.2.2.2 (4 * w + r) (by omega)).1⟩
    have hy : ∀ r, r < W → ∃ len, len ≤ 32 ∧ ec (4 * w + r) = nI len := fun r hr => ⟨pt_sum (Ls (4 * w + r)), (R.2.2.2.2.2 (4 * w + r) (by omega)).1.2.1, (R.2.2.2.2.2 (4 * w + r) (by omega)).1.2.2.2.1⟩
    refine px_broadcast hW hw rfl hx (fun a => ?_) (fun n z => ?_) (fun n z => ?_)
    · exact py_broadcast hW hw rfl hy (fun _ => ⟨rfl, same⟩) (fun n _ => absurd a (by omega)) (fun n _ => absurd a (by omega))
    · refine py_broadcast hW hw rfl hy (fun a => absurd a (by omega)) (fun _ _ => ⟨rfl, same⟩) (fun _ y => ?_)
      obtain ⟨r, hr, g⟩ := z
      exact absurd (y r hr) g
    · refine py_broadcast hW hw rfl hy (fun a => absurd a (by omega)) (fun _ y => ?_) (fun _ _ => ⟨rfl, ?_⟩)
      · obtain ⟨r, hr, g⟩ := y
        exact absurd (z r hr) g
      · obtain ⟨R1, R2, R3, R4, R5, R6⟩ := R
        have hle := pt_cnt_le pe (64 * w) 64
        have room : ∀ r, r < W → pt_sum (Ls (4 * w + r)) + pt_cnt pe (64 * w) 64 ≤ 32 := by
          intro r hr
          have h1 := (R6 (4 * w + r) (by omega)).1
          have h2 := z r hr
          rw [h1.2.2.2.1, pt_roomE h1.2.1 hle] at h2
          exact h2
        refine ⟨W, _, _, _, _, _, _, _, _, _, _, pt_bL w (pt_cnt pe (64 * w) 64) Ls W, rfl, rfl, R1, pt_bd_u R2 (by omega), pt_bd_u R3 (by omega), fun i hi => ⟨(R4 i hi).1, by rw [pt_clr_out (by omega)]; exact (R4 i hi).2⟩, pt_bep_in R5 W, fun c hc => ⟨?_, ?_⟩⟩
        · exact pt_bch (by omega) n (fun c hc => (R6 c hc).1) hW room c hc
        · exact pt_bmk (by omega) n rfl (fun c hc => (R6 c hc).1) (fun c hc => (R6 c hc).2) hW room c hc
  · unfold wpX_broadcast
    refine px_isWn hW hok (br_t rfl ?_)
    unfold wpY_broadcast
    exact py_okWc hW (fun t => absurd t hok) (fun _ => br_t rfl ⟨rfl, same⟩)
theorem i_vc_deliver {k : Nat} {u : SX} {v : SY} (I : i_Rel k u v) (hk : k + 5 ≤ 2561) (v1 : Int32) (v2 : Int32) : wpX_deliver (fun r u' => wpY_deliver (fun r' v' => r' = r ∧ i_Rel (k + 5) u' v') v v1 v2) u v1 v2 := by
  obtain ⟨W, ms, ca, pe, vi, bc, bs, ec, ep, ed, st, Ls, rfl, rfl, R⟩ := I
  have hW : W ≤ 4 := R.1.2
  have same : i_Rel (k + 5) (nI W, ms, ca, pe, vi, bc, bs, ec, ep, ed) (nI W, ms, ca, pe, vi, ep, ed, st, ec) := ⟨W, ms, ca, pe, vi, bc, bs, ec, ep, ed, st, Ls, rfl, rfl, pt_R_up (by omega) R⟩
  by_cases hok : pt_okW W v1 ∧ pt_okW W v2
  · obtain ⟨⟨s, hs, rfl⟩, ⟨r, hr, rfl⟩⟩ := hok
    obtain ⟨R1, R2, R3, R4, R5, R6⟩ := R
    have k0 := R6 (4 * s + r) (by omega)
    cases hL : Ls (4 * s + r) with
    | nil =>
      rw [hL] at k0
      exact px_deliver0 hW hs hr k0.1.2.2.1 (py_deliver0 hW hs hr k0.1.2.2.2.1 ⟨rfl, same⟩)
    | cons a l =>
      rw [hL] at k0
      obtain ⟨c0, m0⟩ := k0
      have hsum : a + pt_sum l ≤ 32 := c0.2.1
      have hlen : l.length ≤ pt_sum l := pt_len_sum (pt_all1_c c0.1).2
      refine px_deliver hW hs hr R5 c0 (py_deliver hW hs hr R5 c0.1 c0.2.1 c0.2.2.2.1 m0 ⟨rfl, ?_⟩)
      refine ⟨W, _, _, _, _, _, _, _, _, _, _, fun c => if c = 4 * s + r then l else Ls c, rfl, rfl, R1, pt_bd_u R2 (by omega), pt_bd_u R3 (by omega), R4, pt_sh_in R5 _, fun c hc => ?_⟩
      dsimp only
      by_cases e : c = 4 * s + r
      · rw [if_pos e, e]
        exact ⟨pt_ch_tail c0 pk_us pk_us (fun j hj => pt_sh_at hj), pt_mk_tail (pt_all1_c c0.1).1 m0 (fun j hj => pt_sh_at hj)⟩
      · rw [if_neg e]
        obtain ⟨x, y⟩ := R6 c hc
        have hxl := pt_ch_len x
        have hxs := x.2.1
        refine ⟨pt_ch_cong x (pk_un e) (pk_un e) (fun j hj => ?_), pt_mk_cong y (fun j hj => ?_)⟩
        · rcases Nat.lt_or_gt_of_ne e with q | q
          · exact pt_sh_lt (by omega)
          · exact pt_sh_ge (by omega)
        · rcases Nat.lt_or_gt_of_ne e with q | q
          · exact pt_sh_lt (by omega)
          · exact pt_sh_ge (by omega)
  · unfold wpX_deliver
    refine px_gWW hW (fun _ => ?_) (fun a b => absurd ⟨a, b⟩ hok)
    unfold wpY_deliver
    exact py_gWW hW (fun _ => ⟨rfl, same⟩) (fun a b => absurd ⟨a, b⟩ hok)
theorem i_vc_canReach {k : Nat} {u : SX} {v : SY} (I : i_Rel k u v) (hk : k + 5 ≤ 2561) (v1 : Int32) (v2 : Int32) (v3 : Int32) (v4 : Int32) : wpX_canReach (fun r => wpY_canReach (fun r' => r' = r ∧ i_Rel (k + 5) u v) v v1 v2 v3 v4) u v1 v2 v3 v4 := by
  obtain ⟨W, ms, ca, pe, vi, bc, bs, ec, ep, ed, st, Ls, rfl, rfl, R⟩ := I
  have hW : W ≤ 4 := R.1.2
  have same : i_Rel (k + 5) (nI W, ms, ca, pe, vi, bc, bs, ec, ep, ed) (nI W, ms, ca, pe, vi, ep, ed, st, ec) := ⟨W, ms, ca, pe, vi, bc, bs, ec, ep, ed, st, Ls, rfl, rfl, pt_R_up (by omega) R⟩
  by_cases hok : pt_okW W v1 ∧ pt_ok v2 ∧ pt_ok v3 ∧ pt_ok v4
  · obtain ⟨⟨w, hw, rfl⟩, ⟨d, hd, rfl⟩, ⟨e, he, rfl⟩, ⟨r, hr, rfl⟩⟩ := hok
    refine px_canReach hW hw hd he hr (fun a => ?_) (fun n => ?_)
    · refine py_canReach hW hw hd he hr (fun _ => ⟨rfl, same⟩) (fun n => ?_)
      obtain ⟨p, hp, g1, g2⟩ := a
      exact absurd g2 (n p hp g1)
    · refine py_canReach hW hw hd he hr (fun a => ?_) (fun _ => ⟨rfl, same⟩)
      obtain ⟨p, hp, g1, g2⟩ := a
      exact absurd g2 (n p hp g1)
  · unfold wpX_canReach
    refine px_g4 hW (fun _ => ?_) (fun a b c d => absurd ⟨a, b, c, d⟩ hok)
    unfold wpY_canReach
    exact py_g4 hW (fun _ => ⟨rfl, same⟩) (fun a b c d => absurd ⟨a, b, c, d⟩ hok)
theorem i_vc_couldArrive {k : Nat} {u : SX} {v : SY} (I : i_Rel k u v) (hk : k + 5 ≤ 2561) (v1 : Int32) (v2 : Int32) (v3 : Int32) : wpX_couldArrive (fun r => wpY_couldArrive (fun r' => r' = r ∧ i_Rel (k + 5) u v) v v1 v2 v3) u v1 v2 v3 := by
  obtain ⟨W, ms, ca, pe, vi, bc, bs, ec, ep, ed, st, Ls, rfl, rfl, R⟩ := I
  have hW : W ≤ 4 := R.1.2
  have same : i_Rel (k + 5) (nI W, ms, ca, pe, vi, bc, bs, ec, ep, ed) (nI W, ms, ca, pe, vi, ep, ed, st, ec) := ⟨W, ms, ca, pe, vi, bc, bs, ec, ep, ed, st, Ls, rfl, rfl, pt_R_up (by omega) R⟩
  by_cases hok : pt_ok v1 ∧ pt_ok v2 ∧ pt_ok v3
  · obtain ⟨⟨d, hd, rfl⟩, ⟨e, he, rfl⟩, ⟨r, hr, rfl⟩⟩ := hok
    have hR := R
    obtain ⟨R1, R2, R3, R4, R5, R6⟩ := R
    have hk' : k < 2 ^ 20 := by omega
    have ht : ∀ p, pt_occ ms ca p 4 = pt_occ ms ca p W := fun p => pt_occ_tail (fun i hi => (R4 i hi).1) hW
    refine px_couldArrive hW hd he hr hk' R2 R3 (fun a => ?_) (fun n => ?_)
    · refine py_couldArrive hd he hr hk' R2 R3 (fun _ => ⟨rfl, same⟩) (fun n => ?_)
      obtain ⟨p, hp, g1, g2⟩ := a
      exact absurd g2 (n p hp (by rw [ht p]; exact g1))
    · refine py_couldArrive hd he hr hk' R2 R3 (fun a => ?_) (fun _ => ⟨rfl, same⟩)
      obtain ⟨p, hp, g1, g2⟩ := a
      exact absurd g2 (n p hp (by rw [← ht p]; exact g1))
  · unfold wpX_couldArrive
    refine px_g3 (fun _ => ?_) (fun a b c => absurd ⟨a, b, c⟩ hok)
    unfold wpY_couldArrive
    exact py_g3 (fun _ => ⟨rfl, same⟩) (fun a b c => absurd ⟨a, b, c⟩ hok)
theorem i_vc_frontierSize {k : Nat} {u : SX} {v : SY} (I : i_Rel k u v) (hk : k + 5 ≤ 2561) (v1 : Int32) (v2 : Int32) : wpX_frontierSize (fun r => wpY_frontierSize (fun r' => r' = r ∧ i_Rel (k + 5) u v) v v1 v2) u v1 v2 := by
  obtain ⟨W, ms, ca, pe, vi, bc, bs, ec, ep, ed, st, Ls, rfl, rfl, R⟩ := I
  have hW : W ≤ 4 := R.1.2
  have same : i_Rel (k + 5) (nI W, ms, ca, pe, vi, bc, bs, ec, ep, ed) (nI W, ms, ca, pe, vi, ep, ed, st, ec) := ⟨W, ms, ca, pe, vi, bc, bs, ec, ep, ed, st, Ls, rfl, rfl, pt_R_up (by omega) R⟩
  by_cases hok : pt_okW W v1 ∧ pt_ok v2
  · obtain ⟨⟨w, hw, rfl⟩, ⟨e, he, rfl⟩⟩ := hok
    exact px_fsize hW hw he (py_fsize hW hw he ⟨rfl, same⟩)
  · unfold wpX_frontierSize
    refine px_g2 hW (fun _ => ?_) (fun a b => absurd ⟨a, b⟩ hok)
    unfold wpY_frontierSize
    exact py_g2 hW (fun _ => ⟨rfl, same⟩) (fun a b => absurd ⟨a, b⟩ hok)
theorem i_vc_frontierElement {k : Nat} {u : SX} {v : SY} (I : i_Rel k u v) (hk : k + 5 ≤ 2561) (v1 : Int32) (v2 : Int32) (v3 : Int32) : wpX_frontierElement (fun r => wpY_frontierElement (fun r' => r' = r ∧ i_Rel (k + 5) u v) v v1 v2 v3) u v1 v2 v3 := by
  obtain ⟨W, ms, ca, pe, vi, bc, bs, ec, ep, ed, st, Ls, rfl, rfl, R⟩ := I
  have hW : W ≤ 4 := R.1.2
  have same : i_Rel (k + 5) (nI W, ms, ca, pe, vi, bc, bs, ec, ep, ed) (nI W, ms, ca, pe, vi, ep, ed, st, ec) := ⟨W, ms, ca, pe, vi, bc, bs, ec, ep, ed, st, Ls, rfl, rfl, pt_R_up (by omega) R⟩
  by_cases hok : pt_okW W v1 ∧ pt_ok v2
  · obtain ⟨⟨w, hw, rfl⟩, ⟨e, he, rfl⟩⟩ := hok
    refine px_felem hW hw he ?_
    by_cases hix : 0 ≤ v3
    · exact py_felem hW hw he hix ⟨rfl, same⟩
    · exact py_felemN hW hw he hix ⟨(pt_el_neg hix 4 0 (by omega)).symm, same⟩
  · unfold wpX_frontierElement
    refine px_g2 hW (fun _ => ?_) (fun a b => absurd ⟨a, b⟩ hok)
    unfold wpY_frontierElement
    exact py_g2 hW (fun _ => ⟨rfl, same⟩) (fun a b => absurd ⟨a, b⟩ hok)
theorem i_vc_viewCount {k : Nat} {u : SX} {v : SY} (I : i_Rel k u v) (hk : k + 5 ≤ 2561) (v1 : Int32) (v2 : Int32) (v3 : Int32) (v4 : Int32) : wpX_viewCount (fun r => wpY_viewCount (fun r' => r' = r ∧ i_Rel (k + 5) u v) v v1 v2 v3 v4) u v1 v2 v3 v4 := by
  obtain ⟨W, ms, ca, pe, vi, bc, bs, ec, ep, ed, st, Ls, rfl, rfl, R⟩ := I
  have hW : W ≤ 4 := R.1.2
  have same : i_Rel (k + 5) (nI W, ms, ca, pe, vi, bc, bs, ec, ep, ed) (nI W, ms, ca, pe, vi, ep, ed, st, ec) := ⟨W, ms, ca, pe, vi, bc, bs, ec, ep, ed, st, Ls, rfl, rfl, pt_R_up (by omega) R⟩
  by_cases hok : pt_okW W v1 ∧ pt_ok v2 ∧ pt_ok v3 ∧ pt_ok v4
  · obtain ⟨⟨w, hw, rfl⟩, ⟨d, hd, rfl⟩, ⟨e, he, rfl⟩, ⟨r, hr, rfl⟩⟩ := hok
    exact px_viewC hW hw hd he hr (py_viewC hW hw hd he hr ⟨rfl, same⟩)
  · unfold wpX_viewCount
    refine px_g4 hW (fun _ => ?_) (fun a b c d => absurd ⟨a, b, c, d⟩ hok)
    unfold wpY_viewCount
    exact py_g4 hW (fun _ => ⟨rfl, same⟩) (fun a b c d => absurd ⟨a, b, c, d⟩ hok)
theorem i_vc_pendingCount {k : Nat} {u : SX} {v : SY} (I : i_Rel k u v) (hk : k + 5 ≤ 2561) (v1 : Int32) (v2 : Int32) (v3 : Int32) (v4 : Int32) : wpX_pendingCount (fun r => wpY_pendingCount (fun r' => r' = r ∧ i_Rel (k + 5) u v) v v1 v2 v3 v4) u v1 v2 v3 v4 := by
  obtain ⟨W, ms, ca, pe, vi, bc, bs, ec, ep, ed, st, Ls, rfl, rfl, R⟩ := I
  have hW : W ≤ 4 := R.1.2
  have same : i_Rel (k + 5) (nI W, ms, ca, pe, vi, bc, bs, ec, ep, ed) (nI W, ms, ca, pe, vi, ep, ed, st, ec) := ⟨W, ms, ca, pe, vi, bc, bs, ec, ep, ed, st, Ls, rfl, rfl, pt_R_up (by omega) R⟩
  by_cases hok : pt_okW W v1 ∧ pt_ok v2 ∧ pt_ok v3 ∧ pt_ok v4
  · obtain ⟨⟨w, hw, rfl⟩, ⟨d, hd, rfl⟩, ⟨e, he, rfl⟩, ⟨r, hr, rfl⟩⟩ := hok
    exact px_pendC hW hw hd he hr (py_pendC hW hw hd he hr ⟨rfl, same⟩)
  · unfold wpX_pendingCount
    refine px_g4 hW (fun _ => ?_) (fun a b c d => absurd ⟨a, b, c, d⟩ hok)
    unfold wpY_pendingCount
    exact py_g4 hW (fun _ => ⟨rfl, same⟩) (fun a b c d => absurd ⟨a, b, c, d⟩ hok)
theorem i_vc_messages {k : Nat} {u : SX} {v : SY} (I : i_Rel k u v) (hk : k + 5 ≤ 2561) (v1 : Int32) (v2 : Int32) (v3 : Int32) : wpX_messages (fun r => wpY_messages (fun r' => r' = r ∧ i_Rel (k + 5) u v) v v1 v2 v3) u v1 v2 v3 := by
  obtain ⟨W, ms, ca, pe, vi, bc, bs, ec, ep, ed, st, Ls, rfl, rfl, R⟩ := I
  have hW : W ≤ 4 := R.1.2
  have same : i_Rel (k + 5) (nI W, ms, ca, pe, vi, bc, bs, ec, ep, ed) (nI W, ms, ca, pe, vi, ep, ed, st, ec) := ⟨W, ms, ca, pe, vi, bc, bs, ec, ep, ed, st, Ls, rfl, rfl, pt_R_up (by omega) R⟩
  by_cases hok : pt_ok v1 ∧ pt_ok v2 ∧ pt_ok v3
  · obtain ⟨⟨d, hd, rfl⟩, ⟨e, he, rfl⟩, ⟨r, hr, rfl⟩⟩ := hok
    exact px_msgC hd he hr (py_msgC hd he hr ⟨rfl, same⟩)
  · unfold wpX_messages
    refine px_g3 (fun _ => ?_) (fun a b c => absurd ⟨a, b, c⟩ hok)
    unfold wpY_messages
    exact py_g3 (fun _ => ⟨rfl, same⟩) (fun a b c => absurd ⟨a, b, c⟩ hok)
theorem i_vc_capabilities {k : Nat} {u : SX} {v : SY} (I : i_Rel k u v) (hk : k + 5 ≤ 2561) (v1 : Int32) (v2 : Int32) (v3 : Int32) (v4 : Int32) : wpX_capabilities (fun r => wpY_capabilities (fun r' => r' = r ∧ i_Rel (k + 5) u v) v v1 v2 v3 v4) u v1 v2 v3 v4 := by
  obtain ⟨W, ms, ca, pe, vi, bc, bs, ec, ep, ed, st, Ls, rfl, rfl, R⟩ := I
  have hW : W ≤ 4 := R.1.2
  have same : i_Rel (k + 5) (nI W, ms, ca, pe, vi, bc, bs, ec, ep, ed) (nI W, ms, ca, pe, vi, ep, ed, st, ec) := ⟨W, ms, ca, pe, vi, bc, bs, ec, ep, ed, st, Ls, rfl, rfl, pt_R_up (by omega) R⟩
  by_cases hok : pt_okW W v1 ∧ pt_ok v2 ∧ pt_ok v3 ∧ pt_ok v4
  · obtain ⟨⟨w, hw, rfl⟩, ⟨d, hd, rfl⟩, ⟨e, he, rfl⟩, ⟨r, hr, rfl⟩⟩ := hok
    exact px_capC hW hw hd he hr (py_capC hW hw hd he hr ⟨rfl, same⟩)
  · unfold wpX_capabilities
    refine px_g4 hW (fun _ => ?_) (fun a b c d => absurd ⟨a, b, c, d⟩ hok)
    unfold wpY_capabilities
    exact py_g4 hW (fun _ => ⟨rfl, same⟩) (fun a b c d => absurd ⟨a, b, c, d⟩ hok)
theorem i_vc_queuedBatches {k : Nat} {u : SX} {v : SY} (I : i_Rel k u v) (hk : k + 5 ≤ 2561) (v1 : Int32) (v2 : Int32) : wpX_queuedBatches (fun r => wpY_queuedBatches (fun r' => r' = r ∧ i_Rel (k + 5) u v) v v1 v2) u v1 v2 := by
  obtain ⟨W, ms, ca, pe, vi, bc, bs, ec, ep, ed, st, Ls, rfl, rfl, R⟩ := I
  have hW : W ≤ 4 := R.1.2
  have same : i_Rel (k + 5) (nI W, ms, ca, pe, vi, bc, bs, ec, ep, ed) (nI W, ms, ca, pe, vi, ep, ed, st, ec) := ⟨W, ms, ca, pe, vi, bc, bs, ec, ep, ed, st, Ls, rfl, rfl, pt_R_up (by omega) R⟩
  by_cases hok : pt_okW W v1 ∧ pt_okW W v2
  · obtain ⟨⟨s, hs, rfl⟩, ⟨r, hr, rfl⟩⟩ := hok
    obtain ⟨x, y⟩ := R.2.2.2.2.2 (4 * s + r) (by omega)
    refine px_queued hW hs hr ?_
    exact py_queued hW hs hr x.1 x.2.1 x.2.2.2.1 y ⟨x.2.2.1.symm, same⟩
  · unfold wpX_queuedBatches
    refine px_gWW hW (fun _ => ?_) (fun a b => absurd ⟨a, b⟩ hok)
    unfold wpY_queuedBatches
    exact py_gWW hW (fun _ => ⟨rfl, same⟩) (fun a b => absurd ⟨a, b⟩ hok)
theorem i_vc_isQuiet {k : Nat} {u : SX} {v : SY} (I : i_Rel k u v) (hk : k + 5 ≤ 2561) : wpX_isQuiet (fun r => wpY_isQuiet (fun r' => r' = r ∧ i_Rel (k + 5) u v) v) u := by
  obtain ⟨W, ms, ca, pe, vi, bc, bs, ec, ep, ed, st, Ls, rfl, rfl, R⟩ := I
  have hW : W ≤ 4 := R.1.2
  have same : i_Rel (k + 5) (nI W, ms, ca, pe, vi, bc, bs, ec, ep, ed) (nI W, ms, ca, pe, vi, ep, ed, st, ec) := ⟨W, ms, ca, pe, vi, bc, bs, ec, ep, ed, st, Ls, rfl, rfl, pt_R_up (by omega) R⟩
  obtain ⟨R1, R2, R3, R4, R5, R6⟩ := R
  have pz : (∀ w, w < W → pt_cnt pe (64 * w) 64 = 0) → ∀ j, j < 256 → pe j = 0 := by
    intro h j hj
    rcases Nat.lt_or_ge j (64 * W) with z | z
    · have := pt_cnt_0 (h (j / 64) (by omega)) (j % 64) (by omega)
      rw [show 64 * (j / 64) + j % 64 = j by omega] at this
      exact this
    · exact (R4 j z).2
  have be : ∀ c, c < 16 → (bc c = 0 ↔ ec c = 0) := by
    intro c hc
    obtain ⟨x, _⟩ := R6 c hc
    have h1 := pt_len_sum x.1
    have h2 := x.2.1
    have h3 := x.2.2.1
    have h4 := x.2.2.2.1
    rw [h3, h4, ← nI_0, nI_eq (by omega) (by omega), nI_eq (by omega) (by omega)]
    constructor
    · intro z
      rw [List.eq_nil_of_length_eq_zero z]
      rfl
    · intro z
      omega
  refine px_quiet hW (fun a b => ?_) (fun a => ?_)
  · refine py_quiet (fun _ _ => ⟨rfl, same⟩) (fun n => ?_)
    rcases n with ⟨j, hj, g⟩ | ⟨c, hc, g⟩
    · exact absurd (pz a j hj) g
    · exact absurd ((be c hc).mp (b c hc)) g
  · refine py_quiet (fun n1 n2 => ?_) (fun _ => ⟨rfl, same⟩)
    rcases a with ⟨w, hw, g⟩ | ⟨c, hc, g⟩
    · exact absurd (pt_cnt_z (fun j hj => n1 _ (by omega))) g
    · exact absurd ((be c hc).mpr (n2 c hc)) g
