/-! Y: broadcast, deliver -/
theorem py_nar0 : vp_nar .boolean 0 = 0 := by decide
theorem py_nar1 : vp_nar .boolean 1 = 1 := by decide
theorem py_narF (c : Nat) : vp_nar .boolean (if c = 0 then 1 else 0) = if c = 0 then 1 else 0 := by
  by_cases h : c = 0
  · rw [if_pos h, py_nar1]
  · rw [if_neg h, py_nar0]
theorem pt_c32a (c y : Nat) : nI c * 32 + nI y = nI (32 * c + y) := by rw [pt_c32, nI_add]
theorem pt_st01 : ∀ (l : List Nat) (j : Nat), pt_st l j = 0 ∨ pt_st l j = 1
  | [], _ => Or.inl rfl
  | a :: l, j => by
    show (if j = 0 then 1 else if j < a then 0 else pt_st l (j - a)) = (0 : Int32) ∨ (if j = 0 then 1 else if j < a then 0 else pt_st l (j - a)) = (1 : Int32)
    by_cases h : j = 0
    · rw [if_pos h]; exact Or.inr rfl
    · rw [if_neg h]
      by_cases g : j < a
      · rw [if_pos g]; exact Or.inl rfl
      · rw [if_neg g]; exact pt_st01 l (j - a)
theorem py_narS (l : List Nat) (j : Nat) : vp_nar .boolean (pt_st l j) = pt_st l j := by
  rcases pt_st01 l j with h | h
  · rw [h, py_nar0]
  · rw [h, py_nar1]
section
variable {ms ca pe vi ps dl st ln : Nat → Int32} {W : Nat} {f0 : Int32}
theorem py_append {post : Int32 → SY → Prop} {J : Int32 → (Nat → Int32) → (Nat → Int32) → (Nat → Int32) → (Nat → Int32) → (Nat → Int32) → (Nat → Int32) → (Nat → Int32) → (Nat → Int32) → Prop} {w r n len : Nat} (hw : w < 4) (hr : r < 4) (hn : pt_cnt pe (64 * w) 64 = n) (hlen : ln (4 * w + r) = nI len) (hroom : len + n ≤ 32)
    (h : J (nI (r + 1)) ms ca pe vi (pt_ep pe (64 * w) (32 * (4 * w + r) + (ln (4 * w + r)).toNatClampNeg) ps 64) (pt_ed pe (64 * w) (32 * (4 * w + r) + (ln (4 * w + r)).toNatClampNeg) dl 64) (pt_cs pe (64 * w) (32 * (4 * w + r) + (ln (4 * w + r)).toNatClampNeg) st 64) (upd ln (4 * w + r) (ln (4 * w + r) + nI n))) :
    ∃ k, wY_broadcast_95 post J (nI w) (nI n) (nI r) (nI (4 * w + r)) f0 k (nI len) 1 0 ms ca pe vi ps dl st ln := by
  have e2 : (ln (4 * w + r)).toNatClampNeg = len := by rw [hlen, nI_clamp (by omega)]
  rw [e2, hlen, nI_add] at h
  refine loop_0 (fun k i (s : Int32 × Int32 × (Nat → Int32) × (Nat → Int32) × (Nat → Int32)) => wY_broadcast_95 post J (nI w) (nI n) (nI r) (nI (4 * w + r)) f0 k s.1 s.2.1 (nI i) ms ca pe vi s.2.2.1 s.2.2.2.1 s.2.2.2.2 ln)
    (fun i s => s = (nI (len + pt_cnt pe (64 * w) i), (if pt_cnt pe (64 * w) i = 0 then 1 else 0), pt_ep pe (64 * w) (32 * (4 * w + r) + len) ps i, pt_ed pe (64 * w) (32 * (4 * w + r) + len) dl i, pt_cs pe (64 * w) (32 * (4 * w + r) + len) st i)) 64 (nI len, 1, ps, dl, st) rfl ?_ ?_
  · rintro k s rfl
    refine pk_le 64 64 (fun _ => ⟨vp_in_nI (by omega) (by omega), ?_⟩) (fun z => absurd z (by omega))
    rw [nI_clamp (by omega)]
    dsimp only
    rw [hn]
    exact nm_e (nm_r (nI_1 r) h)
  · rintro k i s hi rfl hk
    have hcl := pt_cnt_mono pe (64 * w) (show i + 1 ≤ 64 by omega)
    rw [pt_cnt_s, hn] at hcl
    have hip : vp_in (nI (64 * w + i)) 256 := vp_in_nI (by omega) (by omega)
    refine pk_le 64 i (fun z => absurd z (by omega)) (fun _ => ?_)
    dsimp only
    rw [pt_w64, nI_clamp (show 64 * w + i < 2 ^ 31 by omega)]
    refine ⟨hip, ?_⟩
    by_cases z : pe (64 * w + i) = 0
    · refine br_t z (nm_r (nI_1 i) (hk (_, _, _, _, _) ?_))
      rw [pt_cnt_s, pt_nz_0 z, pt_ep_z z, pt_ed_z z, pt_cs_z z]
      rfl
    · rw [pt_nz_1 z] at hcl
      refine br_f z (pk_le 32 (len + pt_cnt pe (64 * w) i) (fun y => absurd y (by omega)) (fun _ => ?_))
      rw [pt_c32a, nI_clamp (show 32 * (4 * w + r) + (len + pt_cnt pe (64 * w) i) < 2 ^ 31 by omega), py_narF]
      have hx : vp_in (nI (32 * (4 * w + r) + (len + pt_cnt pe (64 * w) i))) 512 := vp_in_nI (by omega) (by omega)
      refine ⟨hx, nm_e ⟨hip, hx, nm_e ⟨hx, nm_e (nm_r (nI_1 _) (nm_r (nI_1 i) (hk (_, _, _, _, _) ?_)))⟩⟩⟩
      rw [pt_cnt_s, pt_nz_1 z, pt_ep_p z, pt_ed_p z, pt_cs_p z, if_neg (show ¬ pt_cnt pe (64 * w) i + 1 = 0 by omega), show 32 * (4 * w + r) + (len + pt_cnt pe (64 * w) i) = 32 * (4 * w + r) + len + pt_cnt pe (64 * w) i by omega]
      rfl
theorem py_clear {post : Int32 → SY → Prop} {w : Nat} {x : Int32} (hw : w < 4) (h : post x (f0, ms, ca, pt_clr (64 * w) pe 64, vi, ps, dl, st, ln)) : ∃ k, wY_broadcast_208 post (nI w) x f0 k 0 ms ca pe vi ps dl st ln := by
  refine loop_0 (fun k i s => wY_broadcast_208 post (nI w) x f0 k (nI i) ms ca s vi ps dl st ln) (fun i s => s = pt_clr (64 * w) pe i) 64 pe rfl ?_ ?_
  · rintro k s rfl
    exact pk_le 64 64 (fun _ => h) (fun z => absurd z (by omega))
  · rintro k i s hi rfl hn
    refine pk_le 64 i (fun z => absurd z (by omega)) (fun _ => ⟨pk_in (64 * w + i) 256 (by omega) (pt_w64 w i), ?_⟩)
    rw [pt_w64, nI_clamp (by omega)]
    exact nm_e (nm_r (nI_1 i) (hn _ rfl))
theorem py_bloop {post : Int32 → SY → Prop} {w n : Nat} (hW : W ≤ 4) (hw : w < W) (hn : pt_cnt pe (64 * w) 64 = n)
    (H : ∀ r, r < W → ∃ len, ln (4 * w + r) = nI len ∧ len + n ≤ 32)
    (h : post (nI n) (nI W, ms, ca, pt_clr (64 * w) pe 64, vi, pt_bep pe w n ln ps W, pt_bed pe w n ln dl W, pt_bcs pe w n ln st W, pt_bec w n ln W)) :
    ∃ k, wY_broadcast_65 post (nI w) (nI n) (nI W) k 0 ms ca pe vi ps dl st ln := by
  refine loop_0 (fun k i (s : (Nat → Int32) × (Nat → Int32) × (Nat → Int32) × (Nat → Int32)) => wY_broadcast_65 post (nI w) (nI n) (nI W) k (nI i) ms ca pe vi s.1 s.2.1 s.2.2.1 s.2.2.2)
    (fun i s => s = (pt_bep pe w n ln ps i, pt_bed pe w n ln dl i, pt_bcs pe w n ln st i, pt_bec w n ln i)) W (ps, dl, st, ln) rfl ?_ ?_
  · rintro k s rfl
    exact pk_le W W (fun _ => py_clear (by omega) h) (fun z => absurd z (by omega))
  · rintro k i s hi rfl hk
    obtain ⟨len, q1, q3⟩ := H i hi
    have q0 : pt_bec w n ln i (4 * w + i) = nI len := by rw [pt_bec_hi (by omega), q1]
    refine pk_le W i (fun z => absurd z (by omega)) (fun _ => nm_r (pt_w4 w i) ⟨vp_in_nI (by omega) (by omega), ?_⟩)
    dsimp only
    rw [nI_clamp (by omega), q0]
    exact nm_e (py_append (by omega) (by omega) hn q0 q3 (hk (_, _, _, _) rfl))
theorem py_broadcast {post : Int32 → SY → Prop} {w n : Nat} (hW : W ≤ 4) (hw : w < W) (hn : pt_cnt pe (64 * w) 64 = n) (H : ∀ r, r < W → ∃ len, len ≤ 32 ∧ ln (4 * w + r) = nI len)
    (h8 : n = 0 → post (-8) (nI W, ms, ca, pe, vi, ps, dl, st, ln))
    (h7 : 1 ≤ n → (∃ r, r < W ∧ ¬ ln (4 * w + r) ≤ 32 - nI n) → post (-7) (nI W, ms, ca, pe, vi, ps, dl, st, ln))
    (h0 : 1 ≤ n → (∀ r, r < W → ln (4 * w + r) ≤ 32 - nI n) → post (nI n) (nI W, ms, ca, pt_clr (64 * w) pe 64, vi, pt_bep pe w n ln ps W, pt_bed pe w n ln dl W, pt_bcs pe w n ln st W, pt_bec w n ln W)) :
    wpY_broadcast post (nI W, ms, ca, pe, vi, ps, dl, st, ln) (nI w) := by
  have hle := pt_cnt_le pe (64 * w) 64
  unfold wpY_broadcast
  refine py_okWc hW (fun _ => br_f pt_10 (py_after0 (by omega) ?_)) (fun t => absurd ⟨w, hw, rfl⟩ t)
  rw [hn] at hle ⊢
  refine pk_eq n 0 (fun z => h8 z) (fun z => ?_)
  refine loop_0 (σ := Unit) (fun k i _ => wY_broadcast_29 post (nI w) (nI n) (nI W) ms ca pe vi ps dl st ln k (nI i)) (fun i _ => ∀ r, r < i → ln (4 * w + r) ≤ 32 - nI n) W () (fun r hr => absurd hr (by omega)) ?_ ?_
  · intro k _ hs
    refine pk_le W W (fun _ => py_bloop hW hw hn (fun r hr => ?_) (h0 (by omega) hs)) (fun z => absurd z (by omega))
    obtain ⟨len, g1, g2⟩ := H r hr
    have := hs r hr
    rw [g2, pt_roomE g1 hle] at this
    exact ⟨len, g2, this⟩
  · intro k i _ hi hs hk
    refine pk_le W i (fun z => absurd z (by omega)) (fun _ => ?_)
    rw [pt_w4, nI_clamp (by omega)]
    refine ⟨vp_in_nI (by omega) (by omega), ?_⟩
    by_cases z : ln (4 * w + i) ≤ 32 - nI n
    · refine br_t z (nm_r (nI_1 i) (hk () (fun r hr => ?_)))
      by_cases e : r = i
      · rw [e]; exact z
      · exact hs r (by omega)
    · exact br_f z (h7 (by omega) ⟨i, hi, z⟩)
theorem py_shift {post : Int32 → SY → Prop} {c a : Nat} {l : List Nat} (hc : c < 16) (ha : 1 ≤ a) (hab : a + pt_sum l ≤ 32) (hm : pt_mk (a :: l) c st)
    (h : post (nI a) (f0, ms, ca, pe, vi, pt_sh a (32 * c) ps (pt_sum l), pt_sh a (32 * c) dl (pt_sum l), pt_sh a (32 * c) st (pt_sum l), upd ln c (nI (pt_sum l)))) :
    ∃ k, wY_deliver_135 post (nI c) (nI (a + pt_sum l)) (nI (32 * c)) (nI a) f0 k (nI a) ms ca pe vi ps dl st ln := by
  refine pk_loop (fun k i (s : (Nat → Int32) × (Nat → Int32) × (Nat → Int32)) => wY_deliver_135 post (nI c) (nI (a + pt_sum l)) (nI (32 * c)) (nI a) f0 k (nI i) ms ca pe vi s.1 s.2.1 s.2.2 ln)
    (fun i s => ∃ j, i = a + j ∧ s = (pt_sh a (32 * c) ps j, pt_sh a (32 * c) dl j, pt_sh a (32 * c) st j)) (a + pt_sum l) a (ps, dl, st) (by omega) ⟨0, rfl, rfl⟩ ?_ ?_
  · rintro k s ⟨j, hj, rfl⟩
    obtain rfl : j = pt_sum l := by omega
    refine pk_le (a + pt_sum l) (a + pt_sum l) (fun _ => ⟨vp_in_nI hc (by omega), ?_⟩) (fun z => absurd z (by omega))
    rw [nI_clamp (by omega), pk_sub (by omega), show a + pt_sum l - a = pt_sum l by omega]
    exact nm_e h
  · rintro k i s hi ⟨j, rfl, rfl⟩ hn
    refine pk_le (a + pt_sum l) (a + j) (fun z => absurd z (by omega)) (fun _ => ?_)
    dsimp only
    have hv : pt_sh a (32 * c) st j (32 * c + j + a) = pt_st (a :: l) (a + j) := by
      rw [pt_sh_ge (by omega), show 32 * c + j + a = 32 * c + (a + j) by omega]
      exact hm (a + j) hi
    have hs : pt_sh a (32 * c) st (j + 1) = upd (pt_sh a (32 * c) st j) (32 * c + j) (pt_sh a (32 * c) st j (32 * c + j + a)) := rfl
    rw [nI_add, pk_sub (by omega), show 32 * c + (a + j) - a = 32 * c + j by omega, show 32 * c + (a + j) = 32 * c + j + a by omega, nI_clamp (show 32 * c + j + a < 2 ^ 31 by omega), nI_clamp (show 32 * c + j < 2 ^ 31 by omega), hv, py_narS]
    rw [hv] at hs
    have hi1 : vp_in (nI (32 * c + j + a)) 512 := vp_in_nI (by omega) (by omega)
    have hi2 : vp_in (nI (32 * c + j)) 512 := vp_in_nI (by omega) (by omega)
    refine ⟨hi1, hi2, nm_e ⟨hi1, hi2, nm_e ⟨hi1, hi2, nm_e (nm_r (nI_1 (a + j)) (hn (_, _, _) ⟨j + 1, by omega, ?_⟩))⟩⟩⟩
    rw [hs]
    rfl
theorem py_apply {post : Int32 → SY → Prop} {c r a : Nat} {x4 : Int32} (hc : c < 16) (hr : r < 4) (ha : a ≤ 32) (he : ∀ i, ∃ p, p < 64 ∧ ps i = nI p)
    (h : ∃ k, wY_deliver_135 post (nI c) x4 (nI (32 * c)) (nI a) f0 k (nI a) ms ca pe (pt_vw ps dl (32 * c) (64 * r) vi a) ps dl st ln) :
    ∃ k, wY_deliver_85 post (nI r) (nI c) x4 (nI (32 * c)) (nI a) f0 k 0 ms ca pe vi ps dl st ln := by
  refine loop_0 (fun k i s => wY_deliver_85 post (nI r) (nI c) x4 (nI (32 * c)) (nI a) f0 k (nI i) ms ca pe s ps dl st ln) (fun i s => s = pt_vw ps dl (32 * c) (64 * r) vi i) a vi rfl ?_ ?_
  · rintro k s rfl
    exact pk_le a a (fun _ => h) (fun z => absurd z (by omega))
  · rintro k i s hi rfl hn
    obtain ⟨p, hp, e⟩ := he (32 * c + i)
    refine pk_le a i (fun z => absurd z (by omega)) (fun _ => ?_)
    rw [nI_add, nI_clamp (show 32 * c + i < 2 ^ 31 by omega), e, pt_w64, nI_clamp (show 64 * r + p < 2 ^ 31 by omega)]
    have hi1 : vp_in (nI (32 * c + i)) 512 := vp_in_nI (by omega) (by omega)
    have hi2 : vp_in (nI (64 * r + p)) 256 := vp_in_nI (by omega) (by omega)
    refine ⟨hi1, hi2, hi1, hi2, nm_e (nm_r (nI_1 i) (hn _ ?_))⟩
    show _ = upd (pt_vw ps dl (32 * c) (64 * r) vi i) (64 * r + (ps (32 * c + i)).toNatClampNeg) (pt_vw ps dl (32 * c) (64 * r) vi i (64 * r + (ps (32 * c + i)).toNatClampNeg) + dl (32 * c + i))
    rw [e, nI_clamp (show p < 2 ^ 31 by omega)]
theorem py_scan {post : Int32 → SY → Prop} {c r a : Nat} {l : List Nat} (hc : c < 16) (ha : 1 ≤ a) (hab : a + pt_sum l ≤ 32) (hm : pt_mk (a :: l) c st) (hl : pt_all1 l)
    (h : ∃ k, wY_deliver_85 post (nI r) (nI c) (nI (a + pt_sum l)) (nI (32 * c)) (nI a) f0 k 0 ms ca pe vi ps dl st ln) :
    ∃ k, wY_deliver_49 post (nI r) (nI c) (nI (a + pt_sum l)) (nI (32 * c)) f0 ms ca pe vi ps dl st ln k 1 := by
  refine pk_loop (σ := Unit) (fun k i _ => wY_deliver_49 post (nI r) (nI c) (nI (a + pt_sum l)) (nI (32 * c)) f0 ms ca pe vi ps dl st ln k (nI i)) (fun i _ => 1 ≤ i) a 1 () ha (Nat.le_refl 1) ?_ ?_
  · intro k _ _
    refine pk_le (a + pt_sum l) a (fun _ => h) (fun z => pk_le 32 a (fun y => absurd y (by omega)) (fun _ => ⟨pk_in (32 * c + a) 512 (by omega) (nI_add _ _), ?_⟩))
    rw [nI_add, nI_clamp (by omega)]
    refine br_f ?_ h
    rw [hm a (show a < a + pt_sum l by omega), show pt_st (a :: l) a = pt_st l 0 from pt_st_out (j := 0) ha]
    cases l with
    | nil => exact absurd z (by show ¬ a < a + 0; omega)
    | cons b l => rw [pt_st_0]; decide
  · intro k i _ hi h1 hn
    refine pk_le (a + pt_sum l) i (fun z => absurd z (by omega)) (fun z => pk_le 32 i (fun y => absurd y (by omega)) (fun _ => ⟨pk_in (32 * c + i) 512 (by omega) (nI_add _ _), ?_⟩))
    rw [nI_add, nI_clamp (by omega)]
    refine br_t ?_ (nm_r (nI_1 i) (hn () (by omega)))
    rw [hm i (show i < a + pt_sum l by omega)]
    exact pt_st_in (by omega) hi
theorem py_deliver0 {post : Int32 → SY → Prop} {s r : Nat} (hW : W ≤ 4) (hs : s < W) (hr : r < W) (h0 : ln (4 * s + r) = 0) (h : post (-8) (nI W, ms, ca, pe, vi, ps, dl, st, ln)) :
    wpY_deliver post (nI W, ms, ca, pe, vi, ps, dl, st, ln) (nI s) (nI r) := by
  unfold wpY_deliver
  refine py_gWW hW (fun n => absurd ⟨⟨s, hs, rfl⟩, ⟨r, hr, rfl⟩⟩ n) (fun _ _ => nm_r (pt_w4 s r) ⟨vp_in_nI (by omega) (by omega), ?_⟩)
  rw [nI_clamp (by omega), h0]
  exact nm_e (br_t rfl h)
theorem py_deliver {post : Int32 → SY → Prop} {s r a : Nat} {l : List Nat} (hW : W ≤ 4) (hs : s < W) (hr : r < W) (he : ∀ i, ∃ p, p < 64 ∧ ps i = nI p) (hl : pt_all1 (a :: l)) (hsum : a + pt_sum l ≤ 32) (hln : ln (4 * s + r) = nI (a + pt_sum l)) (hm : pt_mk (a :: l) (4 * s + r) st)
    (h : post (nI a) (nI W, ms, ca, pe, pt_vw ps dl (32 * (4 * s + r)) (64 * r) vi a, pt_sh a (32 * (4 * s + r)) ps (pt_sum l), pt_sh a (32 * (4 * s + r)) dl (pt_sum l), pt_sh a (32 * (4 * s + r)) st (pt_sum l), upd ln (4 * s + r) (nI (pt_sum l)))) :
    wpY_deliver post (nI W, ms, ca, pe, vi, ps, dl, st, ln) (nI s) (nI r) := by
  obtain ⟨ha, hl'⟩ := pt_all1_c hl
  unfold wpY_deliver
  refine py_gWW hW (fun n => absurd ⟨⟨s, hs, rfl⟩, ⟨r, hr, rfl⟩⟩ n) (fun _ _ => nm_r (pt_w4 s r) ⟨vp_in_nI (by omega) (by omega), ?_⟩)
  rw [nI_clamp (by omega), hln]
  refine nm_e (br_f (nI_ne0 (by omega) (by omega)) (nm_r (pt_c32 _) ?_))
  exact py_scan (by omega) ha hsum hm hl' (py_apply (by omega) (by omega) (by omega) he (py_shift (by omega) ha hsum hm h))
end
