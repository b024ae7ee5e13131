/-! X: the calls that only ask -/
def pt_KI (a b : Nat) : Int32 := if a = b then 0 else if a = 3 then -1 else if b = 0 then -1 else if a = 2 then (if b = 1 then 1 else 0) else 0
theorem pt_KI_K : ∀ a, a < 4 → ∀ b, b < 4 → (pt_K a b = 9 ∧ pt_KI a b = -1) ∨ (pt_K a b ≤ 1 ∧ pt_KI a b = nI (pt_K a b)) := by decide +kernel
theorem pt_nIm1 {n : Nat} (h : n < 2 ^ 31) : ¬ nI n = -1 := by
  intro e
  have := nI_pos (n := n) h
  rw [e] at this
  exact this (by decide)
theorem pt_d16 {p : Nat} (hp : p < 64) : nI p / 16 = nI (p / 16) := pk_div (d := 16) (by omega) (by decide) (by decide)
theorem pt_d4 {p : Nat} (hp : p < 64) : nI p / 4 = nI (p / 4) := pk_div (d := 4) (by omega) (by decide) (by decide)
theorem pt_m16 {p : Nat} (hp : p < 64) : nI p - nI p / 16 * 16 = nI (p % 16) := pk_rem (d := 16) (by omega) (by decide) (by decide)
theorem pt_m4 {p : Nat} (hp : p < 64) : nI p - nI p / 4 * 4 = nI (p % 4) := pk_rem (d := 4) (by omega) (by decide) (by decide)
theorem pt_n16 : ¬ (16 : Int32) = 0 := by decide
theorem pt_n4 : ¬ (4 : Int32) = 0 := by decide
section
variable {ms ca pe vi bc bs ec ep ed : Nat → Int32} {W : Nat} {f0 : Int32}
theorem px_lf {post : Int32 → Prop} {a b : Nat} (ha : a < 4) (hb : b < 4) (h : post (pt_KI a b)) : wpX_leastFeedbacks post () (nI a) (nI b) := by
  unfold pt_KI at h
  refine pk_eq a b (fun z => ?_) (fun z => pk_eq a 3 (fun y => ?_) (fun y => pk_eq b 0 (fun x => ?_) (fun x => pk_eq a 2 (fun v => pk_eq b 1 (fun t => ?_) (fun t => ?_)) (fun v => ?_))))
  · rw [if_pos z] at h; exact h
  · rw [if_neg z, if_pos y] at h; exact h
  · rw [if_neg z, if_neg y, if_pos x] at h; exact h
  · rw [if_neg z, if_neg y, if_neg x, if_pos v, if_pos t] at h; exact h
  · rw [if_neg z, if_neg y, if_neg x, if_pos v, if_neg t] at h; exact h
  · rw [if_neg z, if_neg y, if_neg x, if_neg v] at h; exact h
theorem px_cr {post : Int32 → Prop} {p o e r : Nat} (hp : p < 64) (ho : o < 4) (he : e < 4) (hr : r < 4) (h1 : pt_cr p o e r → post 1) (h0 : ¬ pt_cr p o e r → post 0) : wpX_couldResultIn post () (nI p) (nI o) (nI e) (nI r) := by
  unfold wpX_couldResultIn
  rw [pt_m16 hp, pt_m4 hp, pt_d16 hp, show nI (p % 16) / 4 = nI (p % 16 / 4) from pt_d4 (by omega)]
  refine ⟨pt_n16, px_lf (by omega) ho ⟨pt_n16, pt_n4, nm_e ⟨pt_n4, nm_e ?_⟩⟩⟩
  rcases pt_KI_K (p / 16) (by omega) o ho with ⟨k1, k2⟩ | ⟨k1, k2⟩
  · exact br_t k2 (h0 (fun t => by have := t.2; omega))
  · rw [k2, nI_add]
    refine br_f (pt_nIm1 (by omega)) (pk_lt e (p % 16 / 4) (fun z => h0 (fun t => by have := t.1; omega)) (fun z => pk_lt r (p % 4 + pt_K (p / 16) o) (fun y => h0 (fun t => by have := t.2; omega)) (fun y => h1 ⟨by omega, by omega⟩)))
theorem px_canReach {post : Int32 → Prop} {w o e r : Nat} (hW : W ≤ 4) (hw : w < W) (ho : o < 4) (he : e < 4) (hr : r < 4) (h1 : (∃ p, p < 64 ∧ ¬ vi (64 * w + p) ≤ 0 ∧ pt_cr p o e r) → post 1) (h0 : (∀ p, p < 64 → ¬ vi (64 * w + p) ≤ 0 → ¬ pt_cr p o e r) → post 0) :
    wpX_canReach post (nI W, ms, ca, pe, vi, bc, bs, ec, ep, ed) (nI w) (nI o) (nI e) (nI r) := by
  unfold wpX_canReach
  refine px_isW hW hw (br_f pt_10 (px_areR ho he hr (br_f pt_10 ?_)))
  refine loop_0 (σ := Unit) (fun k i _ => wX_canReach_23 post (nI w) (nI o) (nI e) (nI r) (nI W) ms ca pe vi bc bs ec ep ed k (nI i)) (fun i _ => ∀ p, p < i → ¬ vi (64 * w + p) ≤ 0 → ¬ pt_cr p o e r) 64 () (fun p hp => absurd hp (by omega)) ?_ ?_
  · intro k _ hs
    exact pk_le 64 64 (fun _ => h0 hs) (fun z => absurd z (by omega))
  · intro k i _ hi hs hn
    refine pk_le 64 i (fun z => absurd z (by omega)) (fun _ => ⟨pk_in (64 * w + i) 256 (by omega) (pt_w64 w i), ?_⟩)
    rw [pt_w64, nI_clamp (by omega)]
    have step : (¬ vi (64 * w + i) ≤ 0 → ¬ pt_cr i o e r) → ∀ p, p < i + 1 → ¬ vi (64 * w + p) ≤ 0 → ¬ pt_cr p o e r := by
      intro hx p hp
      by_cases e : p = i
      · rw [e]; exact hx
      · exact hs p (by omega)
    refine br_c (fun z => nm_r (nI_1 i) (hn () (step (fun g => absurd z g)))) (fun z => px_cr hi ho he hr (fun g => br_f pt_10 (h1 ⟨i, hi, z, g⟩)) (fun g => br_t rfl (nm_r (nI_1 i) (hn () (step (fun _ => g))))))
theorem px_occ {post : Int64 → Prop} {p k : Nat} (hW : W ≤ 4) (hp : p < 64) (hk : k < 2 ^ 20) (hm : ∀ i, ∃ a, a ≤ k ∧ ms i = nI a) (hc : ∀ i, ∃ a, a ≤ k ∧ ca i = nI a) (h : post (lN (pt_occ ms ca p W))) :
    wpX_occurrences post (nI W, ms, ca, pe, vi, bc, bs, ec, ep, ed) (nI p) := by
  unfold wpX_occurrences
  obtain ⟨a, ha, ea⟩ := hm p
  refine ⟨vp_in_nI hp (by omega), ?_⟩
  rw [nI_clamp (show p < 2 ^ 31 by omega)]
  refine nm_r (show (ms p).toInt64 = lN (pt_occ ms ca p 0) from ?_) ?_
  · show _ = lN ((ms p).toNatClampNeg)
    rw [ea, nI_l (by omega), nI_clamp (by omega)]
  · refine loop_0 (fun k i s => wX_occurrences_11 post (nI p) (nI W) ms ca pe vi bc bs ec ep ed k s (nI i)) (fun i s => s = lN (pt_occ ms ca p i)) W _ rfl ?_ ?_
    · rintro k s rfl
      exact pk_le W W (fun _ => h) (fun z => absurd z (by omega))
    · rintro k i s hi rfl hn
      obtain ⟨b, hb, eb⟩ := hc (64 * i + p)
      refine pk_le W i (fun z => absurd z (by omega)) (fun _ => ⟨pk_in (64 * i + p) 256 (by omega) (pt_w64 i p), ?_⟩)
      rw [pt_w64, nI_clamp (show 64 * i + p < 2 ^ 31 by omega)]
      refine nm_e (nm_r (nI_1 i) (hn _ ?_))
      show _ = lN (pt_occ ms ca p i + (ca (64 * i + p)).toNatClampNeg)
      rw [eb, nI_l (by omega), nI_clamp (by omega), lN_add]
theorem px_couldArrive {post : Int32 → Prop} {o e r k : Nat} (hW : W ≤ 4) (ho : o < 4) (he : e < 4) (hr : r < 4) (hk : k < 2 ^ 20) (hm : ∀ i, ∃ a, a ≤ k ∧ ms i = nI a) (hc : ∀ i, ∃ a, a ≤ k ∧ ca i = nI a)
    (h1 : (∃ p, p < 64 ∧ 0 < pt_occ ms ca p W ∧ pt_cr p o e r) → post 1) (h0 : (∀ p, p < 64 → 0 < pt_occ ms ca p W → ¬ pt_cr p o e r) → post 0) :
    wpX_couldArrive post (nI W, ms, ca, pe, vi, bc, bs, ec, ep, ed) (nI o) (nI e) (nI r) := by
  unfold wpX_couldArrive
  refine px_areR ho he hr (br_f pt_10 ?_)
  refine loop_0 (σ := Unit) (fun k i _ => wX_couldArrive_14 post (nI o) (nI e) (nI r) (nI W) ms ca pe vi bc bs ec ep ed k (nI i)) (fun i _ => ∀ p, p < i → 0 < pt_occ ms ca p W → ¬ pt_cr p o e r) 64 () (fun p hp => absurd hp (by omega)) ?_ ?_
  · intro k _ hs
    exact pk_le 64 64 (fun _ => h0 hs) (fun z => absurd z (by omega))
  · intro k' i _ hi hs hn
    have step : (0 < pt_occ ms ca i W → ¬ pt_cr i o e r) → ∀ p, p < i + 1 → 0 < pt_occ ms ca p W → ¬ pt_cr p o e r := by
      intro hx p hp
      by_cases e : p = i
      · rw [e]; exact hx
      · exact hs p (by omega)
    have hle := pt_occ_le (p := i) hk hm hc W
    have hle2 : k * (W + 1) ≤ k * 5 := Nat.mul_le_mul_left k (by omega)
    refine pk_le 64 i (fun z => absurd z (by omega)) (fun _ => px_occ hW hi hk hm hc ?_)
    have hz : lN (pt_occ ms ca i W) ≤ 0 ↔ pt_occ ms ca i W ≤ 0 := lN_le (b := 0) (by omega) (by decide)
    refine br_c (fun z => nm_r (nI_1 i) (hn () (step (fun g => absurd (hz.mp z) (by omega))))) (fun z => ?_)
    have hz' : 0 < pt_occ ms ca i W := by
      rcases Nat.eq_zero_or_pos (pt_occ ms ca i W) with q | q
      · exact absurd (hz.mpr (by omega)) z
      · exact q
    exact px_cr hi ho he hr (fun g => br_f pt_10 (h1 ⟨i, hi, hz', g⟩)) (fun g => br_t rfl (nm_r (nI_1 i) (hn () (step (fun _ => g)))))
/-- the least round so far, at operator a and round q of the scan -/
def pt_inv (f : Nat → Int32) (w o e a q m : Nat) : Prop := m ≤ 5 ∧ (m < 5 → pt_M f w o e m) ∧ ∀ a' q', a' < 4 → q' < 4 → (a' < a ∨ (a' = a ∧ q' < q)) → 0 < f (64 * w + (16 * a' + 4 * e + q')) → m ≤ q' + pt_K a' o
theorem pt_inv_keep {f : Nat → Int32} {w o e a q m : Nat} (h : pt_inv f w o e a q m) (hx : 0 < f (64 * w + (16 * a + 4 * e + q)) → m ≤ q + pt_K a o) : pt_inv f w o e a (q + 1) m := by
  obtain ⟨h1, h2, h3⟩ := h
  refine ⟨h1, h2, fun a' q' ha hq hc hv => ?_⟩
  by_cases z : a' = a ∧ q' = q
  · rw [z.1, z.2] at hv ⊢
    exact hx hv
  · exact h3 a' q' ha hq (by omega) hv
theorem pt_inv_next {f : Nat → Int32} {w o e a m : Nat} (h : pt_inv f w o e a 4 m) : pt_inv f w o e (a + 1) 0 m := by
  obtain ⟨h1, h2, h3⟩ := h
  exact ⟨h1, h2, fun a' q' ha hq hc hv => h3 a' q' ha hq (by omega) hv⟩
theorem pt_inv_end {f : Nat → Int32} {w o e m : Nat} (h : pt_inv f w o e 4 0 m) : m = pt_L f w o e := by
  obtain ⟨h1, h2, h3⟩ := h
  refine pt_lst_un ⟨h1, h2, fun r hr hM => ?_⟩ (pt_L_s f w o e)
  obtain ⟨a, q, ha, hq, e1, hv⟩ := hM
  have := h3 a q ha hq (by omega) hv
  omega
theorem px_lrIn {post : Int32 → Prop} {J6 : Int32 → Int32 → Prop} {w o e a m : Nat} (hw : w < 4) (ho : o < 4) (he : e < 4) (ha : a < 4) (hJ : ∀ m, pt_inv vi w o e (a + 1) 0 m → J6 (nI m) (nI (a + 1))) (hm : pt_inv vi w o e a 0 m) :
    ∃ k, wX_leastRound_23 post J6 (nI w) (nI o) (nI e) (nI a) (pt_KI a o) f0 ms ca pe vi bc bs ec ep ed k (nI m) 0 := by
  refine loop_0 (fun k i s => wX_leastRound_23 post J6 (nI w) (nI o) (nI e) (nI a) (pt_KI a o) f0 ms ca pe vi bc bs ec ep ed k s (nI i)) (fun i s => ∃ m, s = nI m ∧ pt_inv vi w o e a i m) 4 (nI m) ⟨m, rfl, hm⟩ ?_ ?_
  · rintro k s ⟨m, rfl, hi⟩
    exact pk_lt 3 4 (fun _ => nm_r (nI_1 a) (hJ m (pt_inv_next hi))) (fun z => absurd z (by omega))
  · rintro k i s hi ⟨m, rfl, hv⟩ hn
    have hm5 := hv.1
    have skip : (0 < vi (64 * w + (16 * a + 4 * e + i)) → m ≤ i + pt_K a o) → ∀ y, y = nI i + 1 → wX_leastRound_23 post J6 (nI w) (nI o) (nI e) (nI a) (pt_KI a o) f0 ms ca pe vi bc bs ec ep ed k (nI m) y :=
      fun hx => nm_r (nI_1 i) (hn _ ⟨m, rfl, pt_inv_keep hv hx⟩)
    refine pk_lt 3 i (fun z => absurd z (by omega)) (fun _ => ?_)
    unfold wX_leastRound_56 wX_leastRound_57
    rcases pt_KI_K a ha o ho with ⟨k1, k2⟩ | ⟨k1, k2⟩
    · exact br_t k2 (br_t rfl (skip (fun _ => by omega)))
    · refine br_f (by rw [k2]; exact pt_nIm1 (by omega)) (px_place ⟨vp_in_nI (by omega) (by omega), ?_⟩)
      rw [nI_clamp (show 64 * w + (16 * a + 4 * e + i) < 2 ^ 31 by omega)]
      refine br_c (fun z => br_t rfl (skip (fun g => absurd z (Int32.not_le.mpr g)))) (fun z => br_f pt_10 ?_)
      have ek : nI i + pt_KI a o = nI (i + pt_K a o) := by rw [k2, nI_add]
      refine pk_le m (i + pt_K a o) (fun y => skip (fun _ => y)) (fun y => ?_) rfl ek
      refine nm_r ek (nm_r (nI_1 i) (hn _ ⟨i + pt_K a o, rfl, ?_⟩))
      obtain ⟨g1, g2, g3⟩ := hv
      refine ⟨by omega, fun _ => ⟨a, i, ha, hi, rfl, Int32.not_le.mp z⟩, fun a' q' ha' hq' hc hv' => ?_⟩
      by_cases x : a' = a ∧ q' = i
      · rw [x.1, x.2]; omega
      · have := g3 a' q' ha' hq' (by omega) hv'
        omega
theorem px_lr {post : Int32 → Prop} {w o e : Nat} (hw : w < 4) (ho : o < 4) (he : e < 4) (h : post (nI (pt_L vi w o e))) : wpX_leastRound post (f0, ms, ca, pe, vi, bc, bs, ec, ep, ed) (nI w) (nI o) (nI e) := by
  refine loop_0 (fun k i s => wX_leastRound_6 post (nI w) (nI o) (nI e) f0 ms ca pe vi bc bs ec ep ed k s (nI i)) (fun i s => ∃ m, s = nI m ∧ pt_inv vi w o e i 0 m) 4 5 ⟨5, rfl, by omega, fun z => absurd z (by omega), fun a' q' _ _ hc => absurd hc (by omega)⟩ ?_ ?_
  · rintro k s ⟨m, rfl, hi⟩
    refine pk_lt 3 4 (fun _ => ?_) (fun z => absurd z (by omega))
    rw [pt_inv_end hi]
    exact h
  · rintro k i s hi ⟨m, rfl, hv⟩ hn
    exact pk_lt 3 i (fun z => absurd z (by omega)) (fun _ => px_lf hi ho (px_lrIn hw ho he hi (fun m' hm' => hn _ ⟨m', rfl, hm'⟩) hv))
theorem px_fsize {post : Int32 → Prop} {w o : Nat} (hW : W ≤ 4) (hw : w < W) (ho : o < 4) (h : post (nI (pt_sz (pt_L vi w o) 4))) : wpX_frontierSize post (nI W, ms, ca, pe, vi, bc, bs, ec, ep, ed) (nI w) (nI o) := by
  unfold wpX_frontierSize
  refine px_isW hW hw (br_f pt_10 (px_inR ho (br_f pt_10 ?_)))
  refine loop_0 (fun k i (s : Int32 × Int32) => wX_frontierSize_25 post (nI w) (nI o) (nI W) ms ca pe vi bc bs ec ep ed k s.1 s.2 (nI i)) (fun i s => s = (nI (pt_sz (pt_L vi w o) i), nI (pt_low (pt_L vi w o) i))) 4 (0, 5) rfl ?_ ?_
  · rintro k s rfl
    exact pk_lt 3 4 (fun _ => h) (fun z => absurd z (by omega))
  · rintro k i s hi rfl hn
    have hl := pt_low_le (pt_L vi w o) i
    have hL := (pt_L_s vi w o i).1
    refine pk_lt 3 i (fun z => absurd z (by omega)) (fun _ => px_lr (by omega) ho hi ?_)
    refine pk_le (pt_low (pt_L vi w o) i) (pt_L vi w o i) (fun z => nm_r (nI_1 i) (hn (_, _) ?_)) (fun z => nm_r (nI_1 _) (nm_r (nI_1 i) (hn (_, _) ?_)))
    · rw [pt_sz_f (by omega), pt_low_f (by omega)]
    · rw [pt_sz_t z, pt_low_t z]
      rfl
theorem px_capC {post : Int32 → Prop} {w a e r : Nat} (hW : W ≤ 4) (hw : w < W) (ha : a < 4) (he : e < 4) (hr : r < 4) (h : post (ca (64 * w + (16 * a + 4 * e + r)))) : wpX_capabilities post (nI W, ms, ca, pe, vi, bc, bs, ec, ep, ed) (nI w) (nI a) (nI e) (nI r) := by
  unfold wpX_capabilities
  refine px_isW hW hw (br_f pt_10 (px_areR ha he hr (br_f pt_10 (px_place ⟨vp_in_nI (by omega) (by omega), ?_⟩))))
  rw [nI_clamp (by omega)]
  exact h
theorem px_msgC {post : Int32 → Prop} {a e r : Nat} (ha : a < 4) (he : e < 4) (hr : r < 4) (h : post (ms (16 * a + 4 * e + r))) : wpX_messages post (f0, ms, ca, pe, vi, bc, bs, ec, ep, ed) (nI a) (nI e) (nI r) := by
  unfold wpX_messages
  refine px_areR ha he hr (br_f pt_10 (px_point ⟨vp_in_nI (by omega) (by omega), ?_⟩))
  rw [nI_clamp (by omega)]
  exact h
theorem px_quiet {post : Int32 → Prop} (hW : W ≤ 4) (h1 : (∀ w, w < W → pt_cnt pe (64 * w) 64 = 0) → (∀ c, c < 16 → bc c = 0) → post 1) (h0 : ((∃ w, w < W ∧ pt_cnt pe (64 * w) 64 ≠ 0) ∨ ∃ c, c < 16 ∧ ¬ bc c = 0) → post 0) :
    wpX_isQuiet post (nI W, ms, ca, pe, vi, bc, bs, ec, ep, ed) := by
  refine loop_0 (σ := Unit) (fun k i _ => wX_isQuiet_2 post (nI W) ms ca pe vi bc bs ec ep ed k (nI i)) (fun i _ => ∀ w, w < i → pt_cnt pe (64 * w) 64 = 0) W () (fun w h => absurd h (by omega)) ?_ ?_
  · intro k _ hs
    refine pk_le W W (fun _ => ?_) (fun z => absurd z (by omega))
    refine loop_0 (σ := Unit) (fun k i _ => wX_isQuiet_28 post (nI W) ms ca pe vi bc bs ec ep ed k (nI i)) (fun i _ => ∀ c, c < i → bc c = 0) 16 () (fun w h => absurd h (by omega)) ?_ ?_
    · intro k _ hs'
      exact pk_le 16 16 (fun _ => h1 hs hs') (fun z => absurd z (by omega))
    · intro k i _ hi hs' hn
      refine pk_le 16 i (fun z => absurd z (by omega)) (fun _ => ⟨vp_in_nI hi (by omega), ?_⟩)
      rw [nI_clamp (by omega)]
      refine br_c (fun z => nm_r (nI_1 i) (hn () (fun c hc => ?_))) (fun z => h0 (Or.inr ⟨i, hi, z⟩))
      by_cases e : c = i
      · rw [e]; exact z
      · exact hs' c (by omega)
  · intro k i _ hi hs hn
    have hle := pt_cnt_le pe (64 * i) 64
    refine pk_le W i (fun z => absurd z (by omega)) (fun _ => px_pend (by omega) ?_)
    refine pk_eq (pt_cnt pe (64 * i) 64) 0 (fun z => nm_r (nI_1 i) (hn () (fun w hw => ?_))) (fun z => h0 (Or.inl ⟨i, hi, z⟩))
    by_cases e : w = i
    · rw [e]; exact z
    · exact hs w (by omega)
end
