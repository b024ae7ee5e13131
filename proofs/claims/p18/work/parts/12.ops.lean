/-! each call keeps the invariant -/
theorem pq_le_of {a b e e' r r' : Nat} (ha : a < 4) (hb : b < 4) (he : e < 4) (he' : e' < 4) (hr : r < 4) (hr' : r' < 4) (h1 : e ≤ e') (h2 : r + pt_K a b ≤ r') : pq_le (16 * a + 4 * e + r) (16 * b + 4 * e' + r') := by
  refine ⟨by omega, ?_⟩
  rw [show (16 * a + 4 * e + r) % 4 = r by omega, show (16 * a + 4 * e + r) / 16 = a by omega, show (16 * b + 4 * e' + r') / 16 = b by omega, show (16 * b + 4 * e' + r') % 4 = r' by omega]
  exact h2
theorem pl_Kd : ∀ d, d < 4 → pt_K (pt_fr d) (pt_to d) = (if d = 2 then 1 else 0) ∧ pt_fr d ≠ pt_to d := by decide +kernel
theorem pl_lt {d e r : Nat} (hd : d < 4) (he : e < 4) (hr : r < 4) (h3 : pt_r2 d r ≤ 3) : pq_lt (16 * pt_fr d + 4 * e + r) (16 * pt_to d + 4 * e + pt_r2 d r) := by
  have hf := pt_fr_lt d
  have ht := pt_to_lt d
  obtain ⟨k1, k2⟩ := pl_Kd d hd
  refine ⟨pq_le_of (by omega) ht he he hr (by omega) (Nat.le_refl e) ?_, by omega⟩
  rw [k1]
  unfold pt_r2
  by_cases z : d = 2
  · rw [if_pos z, if_pos z]; omega
  · rw [if_neg z, if_neg z]; omega
section
variable {ms ca pe vi bc bs ec ep ed : Nat → Int32} {W j : Nat}
theorem pl_send {post : Int32 → St2 → Prop} {w d e r : Nat} (hj : j < 890) (J : pq_J W j ms ca pe vi bc bs ec ep ed) (hw : w < W) (hd : d < 4) (he : e < 4) (hr : r < 4)
    (h : ∀ x ms' ca' pe' vi' bc' bs' ec' ep' ed', pq_J W (j + 2) ms' ca' pe' vi' bc' bs' ec' ep' ed' → post x (nI W, ms', ca', pe', vi', bc', bs', ec', ep', ed')) : wpX_send post (nI W, ms, ca, pe, vi, bc, bs, ec, ep, ed) (nI w) (nI d) (nI e) (nI r) := by
  have same := pq_J_mono (show j ≤ j + 2 by omega) J
  have hf := pt_fr_lt d
  have ht := pt_to_lt d
  refine px_send J.1.2 hw hd he hr (fun _ => h _ _ _ _ _ _ _ _ _ _ same) (fun _ _ => h _ _ _ _ _ _ _ _ _ _ same) (fun _ _ _ => h _ _ _ _ _ _ _ _ _ _ same) (fun hc h3 _ => h _ _ _ _ _ _ _ _ _ _ ?_)
  exact pq_J_mono (Nat.le_succ _) (pq_J_send (f := 16 * pt_fr d + 4 * e + r) (t := 16 * pt_to d + 4 * e + pt_r2 d r) (by omega) J hw (by omega) (by omega) (pl_lt hd he hr h3) hc rfl rfl)
theorem pl_recv {post : Int32 → St2 → Prop} {w a e r : Nat} (hj : j < 890) (J : pq_J W j ms ca pe vi bc bs ec ep ed) (hw : w < W) (ha : a < 4) (he : e < 4) (hr : r < 4)
    (h : ∀ x ms' ca' pe' vi' bc' bs' ec' ep' ed', pq_J W (j + 2) ms' ca' pe' vi' bc' bs' ec' ep' ed' → post x (nI W, ms', ca', pe', vi', bc', bs', ec', ep', ed')) : wpX_receive post (nI W, ms, ca, pe, vi, bc, bs, ec, ep, ed) (nI w) (nI a) (nI e) (nI r) := by
  have same := pq_J_mono (show j ≤ j + 2 by omega) J
  refine px_receive J.1.2 hw ha he hr (fun _ => h _ _ _ _ _ _ _ _ _ _ same) (fun hc => h _ _ _ _ _ _ _ _ _ _ ?_)
  exact pq_J_mono (Nat.le_succ _) (pq_J_recv (c := 16 * a + 4 * e + r) (by omega) J hw (by omega) hc (by rw [Int32.sub_eq_add_neg]) rfl)
theorem pl_drop {post : Int32 → St2 → Prop} {w a e r : Nat} (hj : j < 890) (J : pq_J W j ms ca pe vi bc bs ec ep ed) (hw : w < W) (ha : a < 4) (he : e < 4) (hr : r < 4)
    (h : ∀ x ms' ca' pe' vi' bc' bs' ec' ep' ed', pq_J W (j + 2) ms' ca' pe' vi' bc' bs' ec' ep' ed' → post x (nI W, ms', ca', pe', vi', bc', bs', ec', ep', ed')) : wpX_drop post (nI W, ms, ca, pe, vi, bc, bs, ec, ep, ed) (nI w) (nI a) (nI e) (nI r) := by
  have same := pq_J_mono (show j ≤ j + 2 by omega) J
  refine px_drop J.1.2 hw ha he hr (fun _ => h _ _ _ _ _ _ _ _ _ _ same) (fun _ _ => h _ _ _ _ _ _ _ _ _ _ same) (fun hc _ => h _ _ _ _ _ _ _ _ _ _ ?_)
  exact pq_J_mono (Nat.le_succ _) (pq_J_drop (c := 16 * a + 4 * e + r) (by omega) J hw (by omega) hc (by rw [Int32.sub_eq_add_neg]) (by rw [Int32.sub_eq_add_neg]))
theorem pl_adv {post : Int32 → St2 → Prop} {w e : Nat} (hj : j < 890) (J : pq_J W j ms ca pe vi bc bs ec ep ed) (hw : w < W) (he : e < 4)
    (h : ∀ x ms' ca' pe' vi' bc' bs' ec' ep' ed', pq_J W (j + 2) ms' ca' pe' vi' bc' bs' ec' ep' ed' → post x (nI W, ms', ca', pe', vi', bc', bs', ec', ep', ed')) : wpX_advanceInput post (nI W, ms, ca, pe, vi, bc, bs, ec, ep, ed) (nI w) (nI e) := by
  have same := pq_J_mono (show j ≤ j + 2 by omega) J
  refine px_adv J.1.2 hw he (fun _ => h _ _ _ _ _ _ _ _ _ _ same) (fun _ _ => h _ _ _ _ _ _ _ _ _ _ same) (fun _ _ _ => h _ _ _ _ _ _ _ _ _ _ same) (fun hc h3 _ => h _ _ _ _ _ _ _ _ _ _ ?_)
  have hlt : pq_lt (4 * e) (4 * (e + 1)) := by
    refine ⟨⟨by omega, ?_⟩, by omega⟩
    rw [show 4 * e / 16 = 0 by omega, show 4 * (e + 1) / 16 = 0 by omega, pq_K00 0 (by omega)]
    omega
  exact pq_J_adv (o := 4 * e) (t := 4 * (e + 1)) (by omega) J hw (by omega) (by omega) hlt hc (by rw [pk_un (show 64 * w + 4 * (e + 1) ≠ 64 * w + 4 * e by omega), Int32.sub_eq_add_neg]) (by rw [pk_un (show 64 * w + 4 * (e + 1) ≠ 64 * w + 4 * e by omega), Int32.sub_eq_add_neg])
theorem pl_bcast {post : Int32 → St2 → Prop} {w : Nat} (J : pq_J W j ms ca pe vi bc bs ec ep ed) (hw : w < W)
    (h : ∀ x ms' ca' pe' vi' bc' bs' ec' ep' ed', pq_J W (j + 2) ms' ca' pe' vi' bc' bs' ec' ep' ed' → post x (nI W, ms', ca', pe', vi', bc', bs', ec', ep', ed')) : wpX_broadcast post (nI W, ms, ca, pe, vi, bc, bs, ec, ep, ed) (nI w) := by
  have same := pq_J_mono (show j ≤ j + 2 by omega) J
  have hle := pt_cnt_le pe (64 * w) 64
  have hJ := J
  obtain ⟨g1, g2, g3, g4, L, B, g5, g7, g6⟩ := J
  refine px_broadcast g1.2 hw rfl (fun r hr => ⟨L (4 * w + r), (g5 (4 * w + r) (by omega)).1⟩) (fun _ => h _ _ _ _ _ _ _ _ _ _ same) (fun _ _ => h _ _ _ _ _ _ _ _ _ _ same) (fun hn hr => h _ _ _ _ _ _ _ _ _ _ ?_)
  refine pq_J_mono (by omega) (pq_J_bcast hJ hw hn rfl (fun r l hr' hl => ?_))
  have hq := hr r hr'
  rw [hl.2.2.2.1, pt_roomE hl.2.1 hle] at hq
  exact hq
theorem pl_deliver {post : Int32 → St2 → Prop} {s r : Nat} (J : pq_J W j ms ca pe vi bc bs ec ep ed) (hs : s < W) (hr : r < W)
    (h : ∀ x ms' ca' pe' vi' bc' bs' ec' ep' ed', pq_J W (j + 2) ms' ca' pe' vi' bc' bs' ec' ep' ed' → post x (nI W, ms', ca', pe', vi', bc', bs', ec', ep', ed')) : wpX_deliver post (nI W, ms, ca, pe, vi, bc, bs, ec, ep, ed) (nI s) (nI r) := by
  have same := pq_J_mono (show j ≤ j + 2 by omega) J
  rcases pq_J_deliver J hs hr with h0 | ⟨a, l, hc, J'⟩
  · exact px_deliver0 J.1.2 hs hr h0 (h _ _ _ _ _ _ _ _ _ _ same)
  · exact px_deliver J.1.2 hs hr J.2.2.2.1 hc (h _ _ _ _ _ _ _ _ _ _ (pq_J_mono (by omega) J'))
end
/-! the start -/
def pt_i0 (x : Int32) : Nat → Nat → Int32
  | 0 => fun _ => 0
  | w + 1 => upd (pt_i0 x w) (64 * w) x
theorem pl_i0 (x : Int32) {s p : Nat} (hp : p < 64) : ∀ W, pt_i0 x W (64 * s + p) = if p = 0 ∧ s < W then x else 0 := by
  intro W
  induction W with
  | zero => rw [if_neg (by omega)]; rfl
  | succ W ih =>
    show upd (pt_i0 x W) (64 * W) x (64 * s + p) = _
    by_cases e : 64 * s + p = 64 * W
    · rw [e, pk_us, if_pos (by omega)]
    · rw [pk_un e, ih]
      by_cases z : p = 0 ∧ s < W
      · rw [if_pos z, if_pos (by omega)]
      · rw [if_neg z, if_neg (by omega)]
theorem pl_i0_v (x : Int32) : ∀ (w i : Nat), pt_i0 x w i = 0 ∨ pt_i0 x w i = x := by
  intro w
  induction w with
  | zero => intro i; exact Or.inl rfl
  | succ w ih =>
    intro i
    show upd (pt_i0 x w) (64 * w) x i = 0 ∨ upd (pt_i0 x w) (64 * w) x i = x
    by_cases e : i = 64 * w
    · rw [e, pk_us]; exact Or.inr rfl
    · rw [pk_un e]; exact ih i
theorem pl_is1 : ∀ n, pq_is (fun _ => 1) n = nI n := by
  intro n
  induction n with
  | zero => rfl
  | succ n ih =>
    show pq_is (fun _ => 1) n + 1 = nI (n + 1)
    rw [ih, nI_1]
theorem pl_is0 : ∀ n, pq_is (fun _ => 0) n = 0 := by
  intro n
  induction n with
  | zero => rfl
  | succ n ih =>
    show pq_is (fun _ => 0) n + 0 = 0
    rw [ih]
    rfl
theorem pl_J0 {W : Nat} (h1 : 1 ≤ W) (h4 : W ≤ 4) : pq_J W 0 (fun _ => 0) (pt_i0 1 W) (fun _ => 0) (pt_i0 (nI W) W) (fun _ => 0) (fun _ => 0) (fun _ => 0) (fun _ => 0) (fun _ => 0) := by
  refine ⟨⟨h1, h4⟩, fun _ => ⟨0, by omega, rfl⟩, fun i => ?_, fun _ => ⟨0, by omega, rfl⟩, fun _ => [], fun _ => [], fun c hc => ⟨⟨fun a ha => absurd ha List.not_mem_nil, Nat.zero_le _, rfl, rfl, trivial⟩, trivial⟩, fun s hs r hr => pq_U_0 (fun _ _ => rfl), fun r hr p hp => ?_⟩
  · rcases pl_i0_v 1 W i with z | z
    · exact ⟨0, by omega, z⟩
    · exact ⟨1, by omega, z⟩
  · rw [pl_i0 (nI W) hp W]
    have e0 : pq_is (fun s => pq_D [] (fun p => (fun _ => (0 : Int32)) (64 * s + p)) p) W = 0 := pl_is0 W
    rw [e0, Int32.add_zero, Int32.zero_add]
    by_cases z : p = 0
    · rw [if_pos ⟨z, hr⟩, pq_is_cong (g := fun _ => 1) (fun s hs => by rw [pl_i0 1 hp W, if_pos ⟨z, hs⟩]), pl_is1]
    · rw [if_neg (fun t => z t.1), pq_is_cong (g := fun _ => 0) (fun s hs => by rw [pl_i0 1 hp W, if_neg (fun t => z t.1)]), pl_is0]
theorem pt_x64 (w : Nat) : nI w * 64 = nI (64 * w) := by
  rw [show (64 : Int32) = nI 64 from rfl, pk_mul, Nat.mul_comm]
theorem pl_init {post : St2 → Prop} {W : Nat} (h1 : 1 ≤ W) (hW : W ≤ 4) (h : post (nI W, fun _ => 0, pt_i0 1 W, fun _ => 0, pt_i0 (nI W) W, fun _ => 0, fun _ => 0, fun _ => 0, fun _ => 0, fun _ => 0)) :
    wpX_init post 9 2400 0 (nI W) := by
  unfold wpX_init
  refine ⟨by omega, by omega, by omega, by omega, by omega, by omega, by omega, by omega, by omega, by omega, by omega, by omega, by omega, by omega, by omega, by omega, by omega, by omega, br_t (nI_le (a := 1) h1 (by omega)) (br_t (nI_le (b := 4) hW (by omega)) ?_)⟩
  refine loop_0 (fun k i (s : (Nat → Int32) × (Nat → Int32)) => wX_init_107 post 9 2400 9 2400 (nI W) k (nI i) (fun _ => 0) s.1 (fun _ => 0) s.2 (fun _ => 0) (fun _ => 0) (fun _ => 0) (fun _ => 0) (fun _ => 0)) (fun i s => s = (pt_i0 1 i, pt_i0 (nI W) i)) W (fun _ => 0, fun _ => 0) rfl ?_ ?_
  · rintro k s rfl
    exact pk_le W W (fun _ => h) (fun z => absurd z (by omega))
  · rintro k i s hi rfl hn
    refine pk_le W i (fun z => absurd z (by omega)) (fun _ => ?_)
    rw [pt_x64, nI_clamp (by omega)]
    have hv : vp_in (nI (64 * i)) 256 := vp_in_nI (by omega) (by omega)
    exact ⟨hv, nm_e ⟨hv, nm_e (nm_r (nI_1 i) (hn (_, _) rfl))⟩⟩
