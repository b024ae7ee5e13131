/-! Y: the calls that only ask -/
theorem pt_KI_t : ∀ a, a < 4 → ∀ b, b < 4 → pt_KI a b = (if a = 0 then 0 else if a = 3 then (if b = 3 then 0 else -1) else if b = 0 then -1 else if a = 2 then (if b = 1 then 1 else 0) else 0) := by decide +kernel
theorem pt_m1n : (-1 : Int32) < 0 := by decide
section
variable {ms ca pe vi ps dl st ln : Nat → Int32} {W : Nat} {f0 : Int32}
theorem py_sum {post : Int32 → Prop} {a b : Nat} (ha : a < 4) (hb : b < 4) (h : post (pt_KI a b)) : wpY_summary post (f0, ms, ca, pe, vi, ps, dl, st, ln) (nI a) (nI b) := by
  rw [pt_KI_t a ha b hb] at h
  refine pk_eq a 0 (fun z => ?_) (fun z => pk_eq a 3 (fun y => pk_eq b 3 (fun t => ?_) (fun t => ?_)) (fun y => pk_eq b 0 (fun x => ?_) (fun x => pk_eq a 2 (fun v => pk_eq b 1 (fun t => ?_) (fun t => ?_)) (fun v => ?_))))
  · rw [if_pos z] at h; exact h
  · rw [if_neg z, if_pos y, if_pos t] at h; exact h
  · rw [if_neg z, if_pos y, if_neg t] at h; exact h
  · rw [if_neg z, if_neg y, if_pos x] at h; exact h
  · rw [if_neg z, if_neg y, if_neg x, if_pos v, if_pos t] at h; exact h
  · rw [if_neg z, if_neg y, if_neg x, if_pos v, if_neg t] at h; exact h
  · rw [if_neg z, if_neg y, if_neg x, if_neg v] at h; exact h
theorem py_could {post : Int32 → Prop} {p o e r : Nat} (hp : p < 64) (ho : o < 4) (he : e < 4) (hr : r < 4) (h1 : pt_cr p o e r → post 1) (h0 : ¬ pt_cr p o e r → post 0) : wpY_could post (f0, ms, ca, pe, vi, ps, dl, st, ln) (nI p) (nI o) (nI e) (nI r) := by
  unfold wpY_could
  rw [pt_m4 hp, pt_d16 hp, pt_d4 hp, pt_m4 (show p / 4 < 64 by omega)]
  refine ⟨pt_n16, nm_e ⟨pt_n4, pt_n4, nm_e ⟨pt_n4, nm_e (py_sum (by omega) ho ?_)⟩⟩⟩
  rcases pt_KI_K (p / 16) (by omega) o ho with ⟨k1, k2⟩ | ⟨k1, k2⟩
  · rw [k2]
    exact br_t pt_m1n (h0 (fun t => by have := t.2; omega))
  · rw [k2, nI_add]
    exact br_f (nI_pos (by omega)) (pk_lt e (p / 4 % 4) (fun z => h0 (fun t => by have := t.1; omega)) (fun z => pk_lt r (p % 4 + pt_K (p / 16) o) (fun y => h0 (fun t => by have := t.2; omega)) (fun y => h1 ⟨by omega, by omega⟩)))
theorem py_canReach {post : Int32 → Prop} {w o e r : Nat} (hW : W ≤ 4) (hw : w < W) (ho : o < 4) (he : e < 4) (hr : r < 4) (h1 : (∃ p, p < 64 ∧ ¬ vi (64 * w + p) ≤ 0 ∧ pt_cr p o e r) → post 1) (h0 : (∀ p, p < 64 → ¬ vi (64 * w + p) ≤ 0 → ¬ pt_cr p o e r) → post 0) :
    wpY_canReach post (nI W, ms, ca, pe, vi, ps, dl, st, ln) (nI w) (nI o) (nI e) (nI r) := by
  unfold wpY_canReach
  refine py_g4 hW (fun n => absurd ⟨⟨w, hw, rfl⟩, ⟨o, ho, rfl⟩, ⟨e, he, rfl⟩, ⟨r, hr, rfl⟩⟩ n) (fun _ _ _ _ => ?_)
  refine loop_0 (σ := Unit) (fun k i _ => wY_canReach_38 post (nI w) (nI o) (nI e) (nI r) (nI W) ms ca pe vi ps dl st ln k (nI i)) (fun i _ => ∀ p, p < i → ¬ vi (64 * w + p) ≤ 0 → ¬ pt_cr p o e r) 64 () (fun p hp => absurd hp (by omega)) ?_ ?_
  · intro k _ hs
    exact pk_le 64 64 (fun _ => h0 hs) (fun z => absurd z (by omega))
  · intro k i _ hi hs hn
    refine pk_le 64 i (fun z => absurd z (by omega)) (fun _ => ⟨pk_in (64 * w + i) 256 (by omega) (pt_w64 w i), ?_⟩)
    rw [pt_w64, nI_clamp (by omega)]
    have step : (¬ vi (64 * w + i) ≤ 0 → ¬ pt_cr i o e r) → ∀ p, p < i + 1 → ¬ vi (64 * w + p) ≤ 0 → ¬ pt_cr p o e r := by
      intro hx p hp
      by_cases e : p = i
      · rw [e]; exact hx
      · exact hs p (by omega)
    refine br_c (fun z => nm_r (nI_1 i) (hn () (step (fun g => absurd z g)))) (fun z => py_could hi ho he hr (fun g => br_f pt_10 (h1 ⟨i, hi, z, g⟩)) (fun g => br_t rfl (nm_r (nI_1 i) (hn () (step (fun _ => g))))))
theorem py_caIn {post : Int32 → Prop} {J29 : Int32 → Prop} {o e r p k : Nat} (ho : o < 4) (he : e < 4) (hr : r < 4) (hp : p < 64) (hk : k < 2 ^ 20) (hm : ∀ i, ∃ a, a ≤ k ∧ ms i = nI a) (hc : ∀ i, ∃ a, a ≤ k ∧ ca i = nI a)
    (h1 : 0 < pt_occ ms ca p 4 → pt_cr p o e r → post 1) (h0 : (0 < pt_occ ms ca p 4 → ¬ pt_cr p o e r) → J29 (nI (p + 1))) :
    ∃ n, wY_couldArrive_48 post J29 (nI o) (nI e) (nI r) (nI p) f0 ms ca pe vi ps dl st ln n (ms p) 0 := by
  have hle := pt_occ_le (p := p) hk hm hc 4
  have e0 : ms p = nI (pt_occ ms ca p 0) := by
    obtain ⟨a, ha, ea⟩ := hm p
    show _ = nI ((ms p).toNatClampNeg)
    rw [ea, nI_clamp (by omega)]
  refine loop_0 (fun k i s => wY_couldArrive_48 post J29 (nI o) (nI e) (nI r) (nI p) f0 ms ca pe vi ps dl st ln k s (nI i)) (fun i s => s = nI (pt_occ ms ca p i)) 4 (ms p) e0 ?_ ?_
  · rintro k' s rfl
    refine pk_le 4 4 (fun _ => ?_) (fun z => absurd z (by omega))
    exact pk_le (pt_occ ms ca p 4) 0 (fun z => nm_r (nI_1 p) (h0 (fun g => absurd g (by omega)))) (fun z => py_could hp ho he hr (fun g => br_f pt_10 (h1 z g)) (fun g => br_t rfl (nm_r (nI_1 p) (h0 (fun _ => g)))))
  · rintro k' i s hi rfl hn
    obtain ⟨b, hb, eb⟩ := hc (64 * i + p)
    refine pk_le 4 i (fun z => absurd z (by omega)) (fun _ => ⟨pk_in (64 * i + p) 256 (by omega) (pt_w64 i p), ?_⟩)
    rw [pt_w64, nI_clamp (show 64 * i + p < 2 ^ 31 by omega)]
    refine nm_e (nm_r (nI_1 i) (hn _ ?_))
    show _ = nI (pt_occ ms ca p i + (ca (64 * i + p)).toNatClampNeg)
    rw [eb, nI_clamp (by omega), nI_add]
theorem py_couldArrive {post : Int32 → Prop} {o e r k : Nat} (ho : o < 4) (he : e < 4) (hr : r < 4) (hk : k < 2 ^ 20) (hm : ∀ i, ∃ a, a ≤ k ∧ ms i = nI a) (hc : ∀ i, ∃ a, a ≤ k ∧ ca i = nI a)
    (h1 : (∃ p, p < 64 ∧ 0 < pt_occ ms ca p 4 ∧ pt_cr p o e r) → post 1) (h0 : (∀ p, p < 64 → 0 < pt_occ ms ca p 4 → ¬ pt_cr p o e r) → post 0) :
    wpY_couldArrive post (f0, ms, ca, pe, vi, ps, dl, st, ln) (nI o) (nI e) (nI r) := by
  unfold wpY_couldArrive
  refine py_g3 (fun n => absurd ⟨⟨o, ho, rfl⟩, ⟨e, he, rfl⟩, ⟨r, hr, rfl⟩⟩ n) (fun _ _ _ => ?_)
  refine loop_0 (σ := Unit) (fun k i _ => wY_couldArrive_29 post (nI o) (nI e) (nI r) f0 ms ca pe vi ps dl st ln k (nI i)) (fun i _ => ∀ p, p < i → 0 < pt_occ ms ca p 4 → ¬ pt_cr p o e r) 64 () (fun p hp => absurd hp (by omega)) ?_ ?_
  · intro k _ hs
    exact pk_le 64 64 (fun _ => h0 hs) (fun z => absurd z (by omega))
  · intro k' i _ hi hs hn
    refine pk_le 64 i (fun z => absurd z (by omega)) (fun _ => ⟨vp_in_nI hi (by omega), ?_⟩)
    rw [nI_clamp (by omega)]
    refine nm_e (py_caIn ho he hr hi hk hm hc (fun g1 g2 => h1 ⟨i, hi, g1, g2⟩) (fun g => hn () (fun p hp => ?_)))
    by_cases e : p = i
    · rw [e]; exact g
    · exact hs p (by omega)
theorem pt_M_pt {f : Nat → Int32} {w o e r : Nat} (he : e < 4) : pt_M f w o e r ↔ ∃ p, p < 64 ∧ 0 < f (64 * w + p) ∧ p / 4 % 4 = e ∧ p % 4 + pt_K (p / 16) o = r := by
  constructor
  · rintro ⟨a, q, ha, hq, h1, h2⟩
    refine ⟨16 * a + 4 * e + q, by omega, h2, by omega, ?_⟩
    rw [show (16 * a + 4 * e + q) % 4 = q by omega, show (16 * a + 4 * e + q) / 16 = a by omega]
    exact h1
  · rintro ⟨p, hp, h1, h2, h3⟩
    refine ⟨p / 16, p % 4, by omega, by omega, h3, ?_⟩
    rw [show 16 * (p / 16) + 4 * e + p % 4 = p by omega]
    exact h1
theorem py_inM {post : Int32 → Prop} {w o e r : Nat} (hw : w < 4) (ho : o < 4) (he : e < 4) (hr : r < 5) (h1 : pt_M vi w o e r → post 1) (h0 : ¬ pt_M vi w o e r → post 0) : wpY_inM post (f0, ms, ca, pe, vi, ps, dl, st, ln) (nI w) (nI o) (nI e) (nI r) := by
  rw [pt_M_pt he] at h1 h0
  refine loop_0 (σ := Unit) (fun k i _ => wY_inM_3 post (nI w) (nI o) (nI e) (nI r) f0 ms ca pe vi ps dl st ln k (nI i)) (fun i _ => ∀ p, p < i → ¬ (0 < vi (64 * w + p) ∧ p / 4 % 4 = e ∧ p % 4 + pt_K (p / 16) o = r)) 64 () (fun p hp => absurd hp (by omega)) ?_ ?_
  · intro k _ hs
    refine pk_le 64 64 (fun _ => h0 ?_) (fun z => absurd z (by omega))
    rintro ⟨p, hp, g⟩
    exact hs p hp g
  · intro k i _ hi hs hn
    have skip : ¬ (0 < vi (64 * w + i) ∧ i / 4 % 4 = e ∧ i % 4 + pt_K (i / 16) o = r) → ∀ y, y = nI i + 1 → wY_inM_3 post (nI w) (nI o) (nI e) (nI r) f0 ms ca pe vi ps dl st ln k y := by
      intro hx
      refine nm_r (nI_1 i) (hn () (fun p hp => ?_))
      by_cases e : p = i
      · rw [e]; exact hx
      · exact hs p (by omega)
    refine pk_le 64 i (fun z => absurd z (by omega)) (fun _ => ⟨pk_in (64 * w + i) 256 (by omega) (pt_w64 w i), ?_⟩)
    rw [pt_w64, nI_clamp (show 64 * w + i < 2 ^ 31 by omega), pt_m4 hi, pt_d16 hi, pt_d4 hi, pt_m4 (show i / 4 < 64 by omega)]
    refine br_c (fun z => skip (fun t => absurd z (Int32.not_le.mpr t.1))) (fun z => ⟨pt_n16, py_sum (by omega) ho ?_⟩)
    rcases pt_KI_K (i / 16) (by omega) o ho with ⟨k1, k2⟩ | ⟨k1, k2⟩
    · rw [k2]
      exact br_t pt_m1n (skip (fun t => by have := t.2.2; omega))
    · rw [k2, nI_add]
      refine br_f (nI_pos (by omega)) ⟨pt_n4, pt_n4, pk_eq (i / 4 % 4) e (fun y => ⟨pt_n4, pk_eq (i % 4 + pt_K (i / 16) o) r (fun x => h1 ⟨i, hi, Int32.not_le.mp z, y, x⟩) (fun x => skip (fun t => x t.2.2))⟩) (fun y => skip (fun t => y t.2.1))⟩
theorem py_fIn {post : Int32 → Prop} {J17 : Int32 → Prop} {w o e r e2 : Nat} (hw : w < 4) (ho : o < 4) (he : e < 4) (hr : r < 5) (he2 : e2 ≤ e)
    (h1 : (∀ r2, r2 ≤ r → ¬ (e2 = e ∧ r2 = r) → ¬ pt_M vi w o e2 r2) → J17 (nI (e2 + 1))) (h0 : (∃ r2, r2 ≤ r ∧ ¬ (e2 = e ∧ r2 = r) ∧ pt_M vi w o e2 r2) → post 0) :
    ∃ k, wY_isFrontier_26 post J17 (nI w) (nI o) (nI e) (nI r) (nI e2) f0 ms ca pe vi ps dl st ln k 0 := by
  refine loop_0 (σ := Unit) (fun k i _ => wY_isFrontier_26 post J17 (nI w) (nI o) (nI e) (nI r) (nI e2) f0 ms ca pe vi ps dl st ln k (nI i)) (fun i _ => ∀ r2, r2 < i → ¬ (e2 = e ∧ r2 = r) → ¬ pt_M vi w o e2 r2) (r + 1) () (fun p hp => absurd hp (by omega)) ?_ ?_
  · intro k _ hs
    exact pk_lt r (r + 1) (fun _ => nm_r (nI_1 e2) (h1 (fun r2 hr2 => hs r2 (by omega)))) (fun z => absurd z (by omega))
  · intro k i _ hi hs hn
    have skip : (¬ (e2 = e ∧ i = r) → ¬ pt_M vi w o e2 i) → ∀ y, y = nI i + 1 → wY_isFrontier_26 post J17 (nI w) (nI o) (nI e) (nI r) (nI e2) f0 ms ca pe vi ps dl st ln k y := by
      intro hx
      refine nm_r (nI_1 i) (hn () (fun p hp => ?_))
      by_cases e : p = i
      · rw [e]; exact hx
      · exact hs p (by omega)
    have look : ¬ (e2 = e ∧ i = r) → wY_isFrontier_46 post J17 (wY_isFrontier_26 post J17 (nI w) (nI o) (nI e) (nI r) (nI e2) f0 ms ca pe vi ps dl st ln k) (nI w) (nI o) (nI e) (nI r) (nI e2) (nI i) f0 ms ca pe vi ps dl st ln := by
      intro hx
      unfold wY_isFrontier_46
      exact py_inM hw ho (by omega) (by omega) (fun g => br_f pt_10 (h0 ⟨i, by omega, hx, g⟩)) (fun g => br_t rfl (skip (fun _ => g)))
    exact pk_lt r i (fun z => absurd z (by omega)) (fun _ => pk_eq e2 e (fun y => pk_eq i r (fun x => skip (fun n => absurd ⟨y, x⟩ n)) (fun x => look (fun t => x t.2))) (fun y => look (fun t => y t.1)))
theorem py_isF {post : Int32 → Prop} {w o e r : Nat} (hw : w < 4) (ho : o < 4) (he : e < 4) (hr : r < 5) (h1 : pt_F vi w o e r → post 1) (h0 : ¬ pt_F vi w o e r → post 0) : wpY_isFrontier post (f0, ms, ca, pe, vi, ps, dl, st, ln) (nI w) (nI o) (nI e) (nI r) := by
  unfold wpY_isFrontier
  refine py_inM hw ho he hr (fun hM => br_f pt_10 ?_) (fun hM => br_t rfl (h0 (fun t => hM t.1)))
  refine loop_0 (σ := Unit) (fun k i _ => wY_isFrontier_17 post (nI w) (nI o) (nI e) (nI r) f0 ms ca pe vi ps dl st ln k (nI i)) (fun i _ => ∀ e2 r2, e2 < i → r2 ≤ r → ¬ (e2 = e ∧ r2 = r) → ¬ pt_M vi w o e2 r2) (e + 1) () (fun p _ hp => absurd hp (by omega)) ?_ ?_
  · intro k _ hs
    exact pk_lt e (e + 1) (fun _ => h1 ⟨hM, fun e2 r2 g1 => hs e2 r2 (by omega)⟩) (fun z => absurd z (by omega))
  · intro k i _ hi hs hn
    refine pk_lt e i (fun z => absurd z (by omega)) (fun _ => py_fIn hw ho he hr (by omega) (fun g => hn () (fun e2 r2 g1 g2 g3 => ?_)) (fun g => ?_))
    · by_cases x : e2 = i
      · rw [x] at g3 ⊢; exact g r2 g2 g3
      · exact hs e2 r2 (by omega) g2 g3
    · obtain ⟨r2, g1, g2, g3⟩ := g
      exact h0 (fun t => t.2 i r2 (by omega) g1 g2 g3)
theorem py_fsize {post : Int32 → Prop} {w o : Nat} (hW : W ≤ 4) (hw : w < W) (ho : o < 4) (h : post (nI (pt_sz (pt_L vi w o) 4))) : wpY_frontierSize post (nI W, ms, ca, pe, vi, ps, dl, st, ln) (nI w) (nI o) := by
  unfold wpY_frontierSize
  refine py_g2 hW (fun n => absurd ⟨⟨w, hw, rfl⟩, ⟨o, ho, rfl⟩⟩ n) (fun _ _ => ?_)
  refine loop_0 (fun k i s => wY_frontierSize_23 post (nI w) (nI o) (nI W) ms ca pe vi ps dl st ln k s (nI i)) (fun i s => s = nI (pt_sz (pt_L vi w o) i)) 4 0 rfl ?_ ?_
  · rintro k s rfl
    exact pk_le 4 4 (fun _ => h) (fun z => absurd z (by omega))
  · rintro k i s hi rfl hn
    have hl := pt_low_le (pt_L vi w o) i
    refine pk_le 4 i (fun z => absurd z (by omega)) (fun _ => ?_)
    refine loop_0 (fun k' r s => wY_frontierSize_32 post (wY_frontierSize_23 post (nI w) (nI o) (nI W) ms ca pe vi ps dl st ln k) (nI w) (nI o) (nI i) (nI W) ms ca pe vi ps dl st ln k' s (nI r))
      (fun r s => (pt_L vi w o i < pt_low (pt_L vi w o) i ∧ pt_L vi w o i < r → s = nI (pt_sz (pt_L vi w o) i + 1)) ∧ (¬ (pt_L vi w o i < pt_low (pt_L vi w o) i ∧ pt_L vi w o i < r) → s = nI (pt_sz (pt_L vi w o) i))) 5 _ ⟨fun z => absurd z.2 (by omega), fun _ => rfl⟩ ?_ ?_
    · rintro k' s ⟨g1, g2⟩
      refine pk_le 5 5 (fun _ => nm_r (nI_1 i) (hn _ ?_)) (fun z => absurd z (by omega))
      by_cases x : pt_L vi w o i < pt_low (pt_L vi w o) i
      · rw [pt_sz_t x]; exact g1 ⟨x, by omega⟩
      · rw [pt_sz_f x]; exact g2 (fun t => x t.1)
    · rintro k' r s hr ⟨g1, g2⟩ hn'
      refine pk_le 5 r (fun z => absurd z (by omega)) (fun _ => py_isF (by omega) ho hi hr (fun hF => br_f pt_10 ?_) (fun hF => br_t rfl ?_))
      · rw [pt_F_iff hr] at hF
        refine nm_e (nm_r (nI_1 r) (hn' _ ⟨fun _ => ?_, fun n => absurd ⟨hF.2, by omega⟩ n⟩))
        rw [g2 (fun t => by have := t.2; omega), nI_1]
      · rw [pt_F_iff hr] at hF
        refine nm_r (nI_1 r) (hn' _ ⟨fun t => g1 ⟨t.1, ?_⟩, fun n => g2 (fun t => n ⟨t.1, by omega⟩)⟩)
        have h2 : ¬ r = pt_L vi w o i := fun x => hF ⟨x, t.1⟩
        omega
theorem py_felem {post : Int32 → Prop} {w o : Nat} {ix : Int32} (hW : W ≤ 4) (hw : w < W) (ho : o < 4) (hix : 0 ≤ ix) (h : post (pt_el (pt_L vi w o) ix 4 0)) : wpY_frontierElement post (nI W, ms, ca, pe, vi, ps, dl, st, ln) (nI w) (nI o) ix := by
  unfold wpY_frontierElement
  refine py_g2 hW (fun n => absurd ⟨⟨w, hw, rfl⟩, ⟨o, ho, rfl⟩⟩ n) (fun _ _ => br_t hix ?_)
  refine loop_0 (fun k i s => wY_frontierElement_28 post (nI w) (nI o) ix (nI W) ms ca pe vi ps dl st ln k s (nI i)) (fun i s => s = nI (pt_sz (pt_L vi w o) i) ∧ ∃ d, i + d = 4 ∧ post (pt_el (pt_L vi w o) ix d i)) 4 0 ⟨rfl, 4, rfl, h⟩ ?_ ?_
  · rintro k s ⟨rfl, d, hd, hp⟩
    obtain rfl : d = 0 := by omega
    exact pk_le 4 4 (fun _ => hp) (fun z => absurd z (by omega))
  · rintro k i s hi ⟨rfl, d, hd, hp⟩ hn
    obtain ⟨d, rfl⟩ : ∃ d', d = d' + 1 := ⟨d - 1, by omega⟩
    have hl := pt_low_le (pt_L vi w o) i
    refine pk_le 4 i (fun z => absurd z (by omega)) (fun _ => ?_)
    refine loop_0 (fun k' r s => wY_frontierElement_37 post (wY_frontierElement_28 post (nI w) (nI o) ix (nI W) ms ca pe vi ps dl st ln k) (nI w) (nI o) ix (nI i) (nI W) ms ca pe vi ps dl st ln k' s (nI r))
      (fun r s => (pt_L vi w o i < pt_low (pt_L vi w o) i ∧ pt_L vi w o i < r → s = nI (pt_sz (pt_L vi w o) i + 1) ∧ ¬ nI (pt_sz (pt_L vi w o) i) = ix) ∧ (¬ (pt_L vi w o i < pt_low (pt_L vi w o) i ∧ pt_L vi w o i < r) → s = nI (pt_sz (pt_L vi w o) i))) 5 _ ⟨fun z => absurd z.2 (by omega), fun _ => rfl⟩ ?_ ?_
    · rintro k' s ⟨g1, g2⟩
      refine pk_le 5 5 (fun _ => nm_r (nI_1 i) (hn _ ⟨?_, d, by omega, ?_⟩)) (fun z => absurd z (by omega))
      · by_cases x : pt_L vi w o i < pt_low (pt_L vi w o) i
        · rw [pt_sz_t x]; exact (g1 ⟨x, by omega⟩).1
        · rw [pt_sz_f x]; exact g2 (fun t => x t.1)
      · by_cases x : pt_L vi w o i < pt_low (pt_L vi w o) i
        · rw [pt_el_f x (g1 ⟨x, by omega⟩).2] at hp; exact hp
        · rw [pt_el_n x] at hp; exact hp
    · rintro k' r s hr ⟨g1, g2⟩ hn'
      refine pk_le 5 r (fun z => absurd z (by omega)) (fun _ => py_isF (by omega) ho hi hr (fun hF => br_f pt_10 ?_) (fun hF => br_t rfl ?_))
      · rw [pt_F_iff hr] at hF
        have es : s = nI (pt_sz (pt_L vi w o) i) := g2 (fun t => by have := t.2; omega)
        by_cases y : nI (pt_sz (pt_L vi w o) i) = ix
        · refine br_t (by rw [es]; exact y) ?_
          rw [pt_el_t hF.2 y] at hp
          rw [pt_e16, hF.1]
          exact hp
        · refine br_f (by rw [es]; exact y) (nm_e (nm_r (nI_1 r) (hn' _ ⟨fun _ => ⟨?_, y⟩, fun n => absurd ⟨hF.2, by omega⟩ n⟩)))
          rw [es, nI_1]
      · rw [pt_F_iff hr] at hF
        refine nm_r (nI_1 r) (hn' _ ⟨fun t => g1 ⟨t.1, ?_⟩, fun n => g2 (fun t => n ⟨t.1, by omega⟩)⟩)
        have h2 : ¬ r = pt_L vi w o i := fun x => hF ⟨x, t.1⟩
        omega
theorem py_felemN {post : Int32 → Prop} {w o : Nat} {ix : Int32} (hW : W ≤ 4) (hw : w < W) (ho : o < 4) (hix : ¬ 0 ≤ ix) (h : post (-1)) : wpY_frontierElement post (nI W, ms, ca, pe, vi, ps, dl, st, ln) (nI w) (nI o) ix := by
  unfold wpY_frontierElement
  exact py_g2 hW (fun n => absurd ⟨⟨w, hw, rfl⟩, ⟨o, ho, rfl⟩⟩ n) (fun _ _ => br_f hix h)
theorem pt_el_neg {L : Nat → Nat} {ix : Int32} (h : ¬ 0 ≤ ix) : ∀ d e, e + d ≤ 4 → pt_el L ix d e = -1 := by
  intro d
  induction d with
  | zero => intro e _; rfl
  | succ d ih =>
    intro e he
    by_cases x : L e < pt_low L e
    · have hs := pt_sz_le L e
      rw [pt_el_f x (fun t => h (by rw [← t]; exact nI_pos' (by omega)))]
      exact ih (e + 1) (by omega)
    · rw [pt_el_n x]
      exact ih (e + 1) (by omega)
theorem py_viewC {post : Int32 → Prop} {w a e r : Nat} (hW : W ≤ 4) (hw : w < W) (ha : a < 4) (he : e < 4) (hr : r < 4) (h : post (vi (64 * w + (16 * a + 4 * e + r)))) : wpY_viewCount post (nI W, ms, ca, pe, vi, ps, dl, st, ln) (nI w) (nI a) (nI e) (nI r) := by
  unfold wpY_viewCount
  refine py_g4 hW (fun n => absurd ⟨⟨w, hw, rfl⟩, ⟨a, ha, rfl⟩, ⟨e, he, rfl⟩, ⟨r, hr, rfl⟩⟩ n) (fun _ _ _ _ => py_idx ?_)
  rw [pt_w64, nI_clamp (by omega)]
  exact ⟨vp_in_nI (by omega) (by omega), h⟩
theorem py_pendC {post : Int32 → Prop} {w a e r : Nat} (hW : W ≤ 4) (hw : w < W) (ha : a < 4) (he : e < 4) (hr : r < 4) (h : post (pe (64 * w + (16 * a + 4 * e + r)))) : wpY_pendingCount post (nI W, ms, ca, pe, vi, ps, dl, st, ln) (nI w) (nI a) (nI e) (nI r) := by
  unfold wpY_pendingCount
  refine py_g4 hW (fun n => absurd ⟨⟨w, hw, rfl⟩, ⟨a, ha, rfl⟩, ⟨e, he, rfl⟩, ⟨r, hr, rfl⟩⟩ n) (fun _ _ _ _ => py_idx ?_)
  rw [pt_w64, nI_clamp (by omega)]
  exact ⟨vp_in_nI (by omega) (by omega), h⟩
theorem py_capC {post : Int32 → Prop} {w a e r : Nat} (hW : W ≤ 4) (hw : w < W) (ha : a < 4) (he : e < 4) (hr : r < 4) (h : post (ca (64 * w + (16 * a + 4 * e + r)))) : wpY_capabilities post (nI W, ms, ca, pe, vi, ps, dl, st, ln) (nI w) (nI a) (nI e) (nI r) := by
  unfold wpY_capabilities
  refine py_g4 hW (fun n => absurd ⟨⟨w, hw, rfl⟩, ⟨a, ha, rfl⟩, ⟨e, he, rfl⟩, ⟨r, hr, rfl⟩⟩ n) (fun _ _ _ _ => py_idx ?_)
  rw [pt_w64, nI_clamp (by omega)]
  exact ⟨vp_in_nI (by omega) (by omega), h⟩
theorem py_msgC {post : Int32 → Prop} {a e r : Nat} (ha : a < 4) (he : e < 4) (hr : r < 4) (h : post (ms (16 * a + 4 * e + r))) : wpY_messages post (f0, ms, ca, pe, vi, ps, dl, st, ln) (nI a) (nI e) (nI r) := by
  unfold wpY_messages
  refine py_g3 (fun n => absurd ⟨⟨a, ha, rfl⟩, ⟨e, he, rfl⟩, ⟨r, hr, rfl⟩⟩ n) (fun _ _ _ => py_idx ⟨vp_in_nI (by omega) (by omega), ?_⟩)
  rw [nI_clamp (by omega)]
  exact h
theorem py_queued {post : Int32 → Prop} {s r : Nat} {l : List Nat} (hW : W ≤ 4) (hs : s < W) (hr : r < W) (hl : pt_all1 l) (hsum : pt_sum l ≤ 32) (hln : ln (4 * s + r) = nI (pt_sum l)) (hm : pt_mk l (4 * s + r) st) (h : post (nI l.length)) : wpY_queuedBatches post (nI W, ms, ca, pe, vi, ps, dl, st, ln) (nI s) (nI r) := by
  unfold wpY_queuedBatches
  refine py_gWW hW (fun n => absurd ⟨⟨s, hs, rfl⟩, ⟨r, hr, rfl⟩⟩ n) (fun _ _ => nm_r (pt_w4 s r) ?_)
  have hi : vp_in (nI (4 * s + r)) 16 := vp_in_nI (by omega) (by omega)
  have hc : (nI (4 * s + r)).toNatClampNeg = 4 * s + r := nI_clamp (by omega)
  refine loop_0 (fun k i x => wY_queuedBatches_30 post (nI (4 * s + r)) (nI W) ms ca pe vi ps dl st ln k x (nI i)) (fun i x => x = nI (pt_cnt st (32 * (4 * s + r)) i)) (pt_sum l) 0 rfl ?_ ?_
  · rintro k x rfl
    refine ⟨hi, ?_⟩
    rw [hc, hln]
    refine pk_le (pt_sum l) (pt_sum l) (fun _ => ?_) (fun z => absurd z (by omega))
    rw [pt_st_cnt hl hm]
    exact h
  · rintro k i x hi' rfl hn
    refine ⟨hi, ?_⟩
    rw [hc, hln]
    refine pk_le (pt_sum l) i (fun z => absurd z (by omega)) (fun _ => pk_le 32 i (fun z => absurd z (by omega)) (fun _ => ⟨pk_in (32 * (4 * s + r) + i) 512 (by omega) (pt_c32a _ _), ?_⟩))
    rw [pt_c32a, nI_clamp (show 32 * (4 * s + r) + i < 2 ^ 31 by omega)]
    by_cases z : st (32 * (4 * s + r) + i) = 0
    · refine br_t z (nm_r (nI_1 i) (hn _ ?_))
      rw [pt_cnt_s, pt_nz_0 z]
      rfl
    · refine br_f z (nm_e (nm_r (nI_1 i) (hn _ ?_)))
      rw [pt_cnt_s, pt_nz_1 z, nI_1]
theorem py_quiet {post : Int32 → Prop} (h1 : (∀ j, j < 256 → pe j = 0) → (∀ c, c < 16 → ln c = 0) → post 1) (h0 : ((∃ j, j < 256 ∧ ¬ pe j = 0) ∨ ∃ c, c < 16 ∧ ¬ ln c = 0) → post 0) :
    wpY_isQuiet post (f0, ms, ca, pe, vi, ps, dl, st, ln) := by
  refine loop_0 (σ := Unit) (fun k i _ => wY_isQuiet_2 post f0 ms ca pe vi ps dl st ln k (nI i)) (fun i _ => ∀ j, j < i → pe j = 0) 256 () (fun w h => absurd h (by omega)) ?_ ?_
  · intro k _ hs
    refine pk_le 256 256 (fun _ => ?_) (fun z => absurd z (by omega))
    refine loop_0 (σ := Unit) (fun k i _ => wY_isQuiet_28 post f0 ms ca pe vi ps dl st ln k (nI i)) (fun i _ => ∀ c, c < i → ln c = 0) 16 () (fun w h => absurd h (by omega)) ?_ ?_
    · intro k _ hs'
      exact pk_le 16 16 (fun _ => h1 hs hs') (fun z => absurd z (by omega))
    · intro k i _ hi hs' hn
      refine pk_le 16 i (fun z => absurd z (by omega)) (fun _ => ⟨vp_in_nI hi (by omega), ?_⟩)
      rw [nI_clamp (by omega)]
      refine br_c (fun z => nm_r (nI_1 i) (hn () (fun c hc => ?_))) (fun z => h0 (Or.inr ⟨i, hi, z⟩))
      by_cases e : c = i
      · rw [e]; exact z
      · exact hs' c (by omega)
  · intro k i _ hi hs hn
    refine pk_le 256 i (fun z => absurd z (by omega)) (fun _ => ⟨vp_in_nI hi (by omega), ?_⟩)
    rw [nI_clamp (by omega)]
    refine br_c (fun z => nm_r (nI_1 i) (hn () (fun c hc => ?_))) (fun z => h0 (Or.inl ⟨i, hi, z⟩))
    by_cases e : c = i
    · rw [e]; exact z
    · exact hs c (by omega)
end
