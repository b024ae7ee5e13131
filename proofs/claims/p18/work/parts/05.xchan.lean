/-! X: advanceInput, broadcast, deliver -/
/-- how many entries worker w has with x at its point p and y at q -/
def pt_aft2 (pe : Nat → Int32) (w p q : Nat) (x y : Int32) : Nat := pt_cnt (upd (upd pe (64 * w + p) x) (64 * w + q) y) (64 * w) 64
theorem pt_aft2_le (pe : Nat → Int32) (w p q : Nat) (x y : Int32) : pt_aft2 pe w p q x y ≤ 64 := pt_cnt_le _ _ _
theorem pt_aft2_e {pe : Nat → Int32} {w p q : Nat} {d1 d2 : Int32} (hp : p < 64) (hq : q < 64) (hn : p ≠ q) :
    nI (pt_cnt pe (64 * w) 64) + ((nI (pt_nz (pe (64 * w + p) + d1)) - nI (pt_nz (pe (64 * w + p)))) + (nI (pt_nz (pe (64 * w + q) + d2)) - nI (pt_nz (pe (64 * w + q))))) = nI (pt_aft2 pe w p q (pe (64 * w + p) + d1) (pe (64 * w + q) + d2)) := by
  have h1 := pt_cnt_upd (f := pe) (b := 64 * w) (q := p) (x := pe (64 * w + p) + d1) (n := 64) hp
  have h2 := pt_cnt_upd (f := upd pe (64 * w + p) (pe (64 * w + p) + d1)) (b := 64 * w) (q := q) (x := pe (64 * w + q) + d2) (n := 64) hq
  rw [pk_un (show 64 * w + q ≠ 64 * w + p by omega)] at h2
  rw [← Int32.add_assoc, pt_gainE h1, pt_gainE h2]
  rfl
section
variable {ms ca pe vi bc bs ec ep ed : Nat → Int32} {W : Nat} {f0 : Int32}
theorem px_adv {post : Int32 → St2 → Prop} {w e : Nat} (hW : W ≤ 4) (hw : w < W) (he : e < 4)
    (h2 : ca (64 * w + 4 * e) = 0 → post (-2) (nI W, ms, ca, pe, vi, bc, bs, ec, ep, ed))
    (h5 : ¬ ca (64 * w + 4 * e) = 0 → e = 3 → post (-5) (nI W, ms, ca, pe, vi, bc, bs, ec, ep, ed))
    (h6 : ¬ ca (64 * w + 4 * e) = 0 → e < 3 → 16 < pt_aft2 pe w (4 * e) (4 * (e + 1)) (pe (64 * w + 4 * e) + (-1)) (pe (64 * w + 4 * (e + 1)) + 1) → post (-6) (nI W, ms, ca, pe, vi, bc, bs, ec, ep, ed))
    (h0 : ¬ ca (64 * w + 4 * e) = 0 → e < 3 → pt_aft2 pe w (4 * e) (4 * (e + 1)) (pe (64 * w + 4 * e) + (-1)) (pe (64 * w + 4 * (e + 1)) + 1) ≤ 16 →
      post 0 (nI W, ms, upd (upd ca (64 * w + 4 * e) (ca (64 * w + 4 * e) - 1)) (64 * w + 4 * (e + 1)) (upd ca (64 * w + 4 * e) (ca (64 * w + 4 * e) - 1) (64 * w + 4 * (e + 1)) + 1), upd (upd pe (64 * w + 4 * e) (pe (64 * w + 4 * e) - 1)) (64 * w + 4 * (e + 1)) (upd pe (64 * w + 4 * e) (pe (64 * w + 4 * e) - 1) (64 * w + 4 * (e + 1)) + 1), vi, bc, bs, ec, ep, ed)) :
    wpX_advanceInput post (nI W, ms, ca, pe, vi, bc, bs, ec, ep, ed) (nI w) (nI e) := by
  have hal := pt_aft2_le pe w (4 * e) (4 * (e + 1)) (pe (64 * w + 4 * e) + (-1)) (pe (64 * w + 4 * (e + 1)) + 1)
  unfold wpX_advanceInput
  have hi1 : vp_in (nI (64 * w + 4 * e)) 256 := vp_in_nI (by omega) (by omega)
  have ec1 : (nI (64 * w + 4 * e)).toNatClampNeg = 64 * w + 4 * e := nI_clamp (by omega)
  refine px_isW hW hw (br_f pt_10 (px_inR he (br_f pt_10 (px_place (a := 0) (c := 0) ?_))))
  rw [show 64 * w + (16 * 0 + 4 * e + 0) = 64 * w + 4 * e by omega]
  refine ⟨hi1, ?_⟩
  rw [ec1]
  refine br_c h2 (fun hc => ?_)
  refine pk_eq e 3 (fun z => h5 hc z) (fun z => ?_)
  rw [nI_1 e]
  refine px_place (a := 0) (c := 0) ?_
  rw [show 64 * w + (16 * 0 + 4 * (e + 1) + 0) = 64 * w + 4 * (e + 1) by omega]
  have hi2 : vp_in (nI (64 * w + 4 * (e + 1))) 256 := vp_in_nI (by omega) (by omega)
  have ec2 : (nI (64 * w + 4 * (e + 1))).toNatClampNeg = 64 * w + 4 * (e + 1) := nI_clamp (by omega)
  refine px_gain (by omega) (px_gain (by omega) (nm_e (px_pend (by omega) ?_)))
  rw [pt_aft2_e (by omega) (by omega) (by omega), ec2]
  exact pk_le _ 16 (fun h => ⟨hi1, hi1, nm_e ⟨hi1, hi1, nm_e ⟨hi2, hi2, nm_e ⟨hi2, hi2, nm_e (h0 hc (by omega) h)⟩⟩⟩⟩) (fun h => h6 hc (by omega) h)
theorem px_room {post : Int32 → Prop} {w n : Nat} (hW : W ≤ 4) (hw : w < W) (h1 : (∀ r, r < W → ec (4 * w + r) ≤ 32 - nI n) → post 1) (h0 : (∃ r, r < W ∧ ¬ ec (4 * w + r) ≤ 32 - nI n) → post 0) :
    wpX_haveChannelsRoom post (nI W, ms, ca, pe, vi, bc, bs, ec, ep, ed) (nI w) (nI n) := by
  refine loop_0 (σ := Unit) (fun k i _ => wX_haveChannelsRoom_2 post (nI w) (nI n) (nI W) ms ca pe vi bc bs ec ep ed k (nI i)) (fun i _ => ∀ r, r < i → ec (4 * w + r) ≤ 32 - nI n) W () (fun r hr => absurd hr (by omega)) ?_ ?_
  · intro k _ hs
    exact pk_le W W (fun _ => h1 hs) (fun z => absurd z (by omega))
  · intro k i _ hi hs hn
    refine pk_le W i (fun z => absurd z (by omega)) (fun _ => px_chan ⟨vp_in_nI (by omega) (by omega), ?_⟩)
    rw [nI_clamp (by omega)]
    by_cases z : ec (4 * w + i) ≤ 32 - nI n
    · refine br_t z (nm_r (nI_1 i) (hn () (fun r hr => ?_)))
      by_cases e : r = i
      · rw [e]; exact z
      · exact hs r (by omega)
    · exact br_f z (h0 ⟨i, hi, z⟩)
theorem px_append {post : St2 → Prop} {w r n len bl : Nat} (hw : w < 4) (hr : r < 4) (hn : pt_cnt pe (64 * w) 64 = n) (hlen : ec (4 * w + r) = nI len) (hbl : bc (4 * w + r) = nI bl) (hroom : len + n ≤ 32) (hb : bl < 32)
    (h : post (f0, ms, ca, pe, vi, upd bc (4 * w + r) (bc (4 * w + r) + 1), upd bs (32 * (4 * w + r) + (bc (4 * w + r)).toNatClampNeg) (nI n), upd ec (4 * w + r) (ec (4 * w + r) + nI n),
      pt_ep pe (64 * w) (32 * (4 * w + r) + (ec (4 * w + r)).toNatClampNeg) ep 64, pt_ed pe (64 * w) (32 * (4 * w + r) + (ec (4 * w + r)).toNatClampNeg) ed 64)) :
    wpX_appendPending post (f0, ms, ca, pe, vi, bc, bs, ec, ep, ed) (nI w) (nI r) (nI n) := by
  have e1 : (bc (4 * w + r)).toNatClampNeg = bl := by rw [hbl, nI_clamp (by omega)]
  have e2 : (ec (4 * w + r)).toNatClampNeg = len := by rw [hlen, nI_clamp (by omega)]
  rw [e1, e2] at h
  have hc : (nI (4 * w + r)).toNatClampNeg = 4 * w + r := nI_clamp (by omega)
  have hi : vp_in (nI (4 * w + r)) 16 := vp_in_nI (by omega) (by omega)
  unfold wpX_appendPending
  refine px_chan (nm_r (pt_c32 (4 * w + r)) ⟨hi, ?_⟩)
  rw [hc, hlen, nI_add]
  refine nm_e ?_
  refine loop_0 (fun k i (s : Int32 × (Nat → Int32) × (Nat → Int32)) => wX_appendPending_29 post (nI w) (nI n) (nI (4 * w + r)) (nI (32 * (4 * w + r))) f0 k s.1 (nI i) ms ca pe vi bc bs ec s.2.1 s.2.2)
    (fun i s => s = (nI (32 * (4 * w + r) + len + pt_cnt pe (64 * w) i), pt_ep pe (64 * w) (32 * (4 * w + r) + len) ep i, pt_ed pe (64 * w) (32 * (4 * w + r) + len) ed i)) 64 (nI (32 * (4 * w + r) + len), ep, ed) rfl ?_ ?_
  · rintro k s rfl
    refine pk_le 64 64 (fun _ => ⟨hi, ?_⟩) (fun z => absurd z (by omega))
    rw [hc, hbl, nI_add, nI_clamp (by omega)]
    refine ⟨vp_in_nI (by omega) (by omega), nm_e ⟨hi, hi, nm_e ⟨hi, hi, nm_e ?_⟩⟩⟩
    rw [hbl] at h
    exact h
  · rintro k i s hi' rfl hn'
    have hcl := pt_cnt_mono pe (64 * w) (show i + 1 ≤ 64 by omega)
    rw [pt_cnt_s, hn] at hcl
    refine pk_le 64 i (fun z => absurd z (by omega)) (fun _ => ⟨pk_in (64 * w + i) 256 (by omega) (pt_w64 w i), ?_⟩)
    rw [pt_w64, nI_clamp (show 64 * w + i < 2 ^ 31 by omega)]
    refine nm_e ?_
    by_cases z : pe (64 * w + i) = 0
    · refine br_t z (nm_r (nI_1 i) (hn' (_, _, _) ?_))
      rw [pt_cnt_s, pt_nz_0 z, pt_ep_z z, pt_ed_z z]
      rfl
    · rw [pt_nz_1 z] at hcl
      have hx : vp_in (nI (32 * (4 * w + r) + len + pt_cnt pe (64 * w) i)) 512 := vp_in_nI (by omega) (by omega)
      refine br_f z ⟨hx, nm_e ⟨hx, nm_e (nm_r (nI_1 _) (nm_r (nI_1 i) (hn' (_, _, _) ?_)))⟩⟩
      dsimp only
      rw [pt_cnt_s, pt_nz_1 z, pt_ep_p z, pt_ed_p z, nI_clamp (by omega)]
      rfl
theorem px_clear {post : St2 → Prop} {w : Nat} (hw : w < 4) (h : post (f0, ms, ca, pt_clr (64 * w) pe 64, vi, bc, bs, ec, ep, ed)) : wpX_clearPending post (f0, ms, ca, pe, vi, bc, bs, ec, ep, ed) (nI w) := by
  refine loop_0 (fun k i s => wX_clearPending_2 post (nI w) f0 k (nI i) ms ca s vi bc bs ec ep ed) (fun i s => s = pt_clr (64 * w) pe i) 64 pe rfl ?_ ?_
  · rintro k s rfl
    exact pk_le 64 64 (fun _ => h) (fun z => absurd z (by omega))
  · rintro k i s hi rfl hn
    refine pk_le 64 i (fun z => absurd z (by omega)) (fun _ => ⟨pk_in (64 * w + i) 256 (by omega) (pt_w64 w i), ?_⟩)
    rw [pt_w64, nI_clamp (by omega)]
    exact nm_e (nm_r (nI_1 i) (hn _ rfl))
theorem px_bloop {post : Int32 → St2 → Prop} {w n : Nat} (hW : W ≤ 4) (hw : w < W) (hn : pt_cnt pe (64 * w) 64 = n)
    (H : ∀ r, r < W → ∃ len bl, ec (4 * w + r) = nI len ∧ bc (4 * w + r) = nI bl ∧ len + n ≤ 32 ∧ bl < 32)
    (h : post (nI n) (nI W, ms, ca, pt_clr (64 * w) pe 64, vi, pt_bbc w bc W, pt_bbs w n bc bs W, pt_bec w n ec W, pt_bep pe w n ec ep W, pt_bed pe w n ec ed W)) :
    ∃ k, wX_broadcast_37 post (nI w) (nI n) k 0 (nI W) ms ca pe vi bc bs ec ep ed := by
  refine loop_0 (fun k i (s : (Nat → Int32) × (Nat → Int32) × (Nat → Int32) × (Nat → Int32) × (Nat → Int32)) => wX_broadcast_37 post (nI w) (nI n) k (nI i) (nI W) ms ca pe vi s.1 s.2.1 s.2.2.1 s.2.2.2.1 s.2.2.2.2)
    (fun i s => s = (pt_bbc w bc i, pt_bbs w n bc bs i, pt_bec w n ec i, pt_bep pe w n ec ep i, pt_bed pe w n ec ed i)) W (bc, bs, ec, ep, ed) rfl ?_ ?_
  · rintro k s rfl
    exact pk_le W W (fun _ => px_clear (by omega) h) (fun z => absurd z (by omega))
  · rintro k i s hi rfl hk
    obtain ⟨len, bl, q1, q2, q3, q4⟩ := H i hi
    refine pk_le W i (fun z => absurd z (by omega)) (fun _ => px_append (len := len) (bl := bl) (by omega) (by omega) hn ?_ ?_ q3 q4 ?_)
    · dsimp only
      rw [pt_bec_hi (by omega), q1]
    · dsimp only
      rw [pt_bbc_hi (by omega), q2]
    · exact nm_r (nI_1 i) (hk (_, _, _, _, _) rfl)
theorem pt_roomE {len n : Nat} (hl : len ≤ 32) (hn : n ≤ 64) : nI len ≤ 32 - nI n ↔ len + n ≤ 32 := by
  have e : (32 - nI n : Int32).toInt = 32 - (n : Int) := pk_sub_toInt (a := 32) (by decide) (by omega)
  rw [Int32.le_iff_toInt_le, e, nI_toInt (by omega)]
  omega
theorem px_broadcast {post : Int32 → St2 → Prop} {w n : Nat} (hW : W ≤ 4) (hw : w < W) (hn : pt_cnt pe (64 * w) 64 = n) (H : ∀ r, r < W → ∃ l, pt_ch l (4 * w + r) bc bs ec)
    (h8 : n = 0 → post (-8) (nI W, ms, ca, pe, vi, bc, bs, ec, ep, ed))
    (h7 : 1 ≤ n → (∃ r, r < W ∧ ¬ ec (4 * w + r) ≤ 32 - nI n) → post (-7) (nI W, ms, ca, pe, vi, bc, bs, ec, ep, ed))
    (h0 : 1 ≤ n → (∀ r, r < W → ec (4 * w + r) ≤ 32 - nI n) → post (nI n) (nI W, ms, ca, pt_clr (64 * w) pe 64, vi, pt_bbc w bc W, pt_bbs w n bc bs W, pt_bec w n ec W, pt_bep pe w n ec ep W, pt_bed pe w n ec ed W)) :
    wpX_broadcast post (nI W, ms, ca, pe, vi, bc, bs, ec, ep, ed) (nI w) := by
  have hle := pt_cnt_le pe (64 * w) 64
  unfold wpX_broadcast
  refine px_isW hW hw (br_f pt_10 (px_pend (by omega) ?_))
  rw [hn] at hle ⊢
  refine pk_eq n 0 (fun z => h8 z) (fun z => px_room hW hw (fun hr => br_f pt_10 ?_) (fun hr => br_t rfl (h7 (by omega) hr)))
  refine px_bloop hW hw hn (fun r hr' => ?_) (h0 (by omega) hr)
  obtain ⟨l, hl⟩ := H r hr'
  have hq := hr r hr'
  have hs := hl.2.1
  rw [hl.2.2.2.1, pt_roomE hs hle] at hq
  have := pt_len_sum hl.1
  exact ⟨pt_sum l, l.length, hl.2.2.2.1, hl.2.2.1, hq, by omega⟩
theorem px_apply {post : St2 → Prop} {c r a : Nat} (hc : c < 16) (hr : r < 4) (ha : a ≤ 32) (he : ∀ i, ∃ p, p < 64 ∧ ep i = nI p) (h : post (f0, ms, ca, pe, pt_vw ep ed (32 * c) (64 * r) vi a, bc, bs, ec, ep, ed)) :
    wpX_applyOldest post (f0, ms, ca, pe, vi, bc, bs, ec, ep, ed) (nI c) (nI r) (nI a) := by
  unfold wpX_applyOldest
  refine nm_r (pt_c32 c) ?_
  refine loop_0 (fun k i s => wX_applyOldest_9 post (nI r) (nI a) (nI (32 * c)) f0 k (nI i) ms ca pe s bc bs ec ep ed) (fun i s => s = pt_vw ep ed (32 * c) (64 * r) vi i) a vi rfl ?_ ?_
  · rintro k s rfl
    exact pk_le a a (fun _ => h) (fun z => absurd z (by omega))
  · rintro k i s hi rfl hn
    obtain ⟨p, hp, e⟩ := he (32 * c + i)
    refine pk_le a i (fun z => absurd z (by omega)) (fun _ => ?_)
    rw [nI_add, nI_clamp (show 32 * c + i < 2 ^ 31 by omega), e, pt_w64, nI_clamp (show 64 * r + p < 2 ^ 31 by omega)]
    have hi1 : vp_in (nI (32 * c + i)) 512 := vp_in_nI (by omega) (by omega)
    have hi2 : vp_in (nI (64 * r + p)) 256 := vp_in_nI (by omega) (by omega)
    refine ⟨hi1, hi2, hi1, hi2, nm_e (nm_r (nI_1 i) (hn _ ?_))⟩
    show _ = upd (pt_vw ep ed (32 * c) (64 * r) vi i) (64 * r + (ep (32 * c + i)).toNatClampNeg) (pt_vw ep ed (32 * c) (64 * r) vi i (64 * r + (ep (32 * c + i)).toNatClampNeg) + ed (32 * c + i))
    rw [e, nI_clamp (show p < 2 ^ 31 by omega)]
theorem px_remE {post : St2 → Prop} {c a b : Nat} (hc : c < 16) (hab : a + b ≤ 32) (hec : ec c = nI (a + b)) (h : post (f0, ms, ca, pe, vi, bc, bs, upd ec c (nI b), pt_sh a (32 * c) ep b, pt_sh a (32 * c) ed b)) :
    wpX_removeOldestEntries post (f0, ms, ca, pe, vi, bc, bs, ec, ep, ed) (nI c) (nI a) := by
  unfold wpX_removeOldestEntries
  have hcc : (nI c).toNatClampNeg = c := nI_clamp (by omega)
  have hi : vp_in (nI c) 16 := vp_in_nI hc (by omega)
  refine nm_r (pt_c32 c) ⟨hi, ?_⟩
  rw [hcc, hec, pk_sub (by omega), show a + b - a = b by omega]
  refine nm_e ?_
  refine loop_0 (fun k i (s : (Nat → Int32) × (Nat → Int32)) => wX_removeOldestEntries_18 post (nI c) (nI a) (nI (32 * c)) (nI b) f0 k (nI i) ms ca pe vi bc bs ec s.1 s.2) (fun i s => s = (pt_sh a (32 * c) ep i, pt_sh a (32 * c) ed i)) b (ep, ed) rfl ?_ ?_
  · rintro k s rfl
    refine pk_le b b (fun _ => ⟨hi, ?_⟩) (fun z => absurd z (by omega))
    rw [hcc]
    exact nm_e h
  · rintro k i s hi' rfl hn
    refine pk_le b i (fun z => absurd z (by omega)) (fun _ => ?_)
    rw [nI_add, nI_add, nI_clamp (show 32 * c + i + a < 2 ^ 31 by omega), nI_clamp (show 32 * c + i < 2 ^ 31 by omega)]
    have hi1 : vp_in (nI (32 * c + i + a)) 512 := vp_in_nI (by omega) (by omega)
    have hi2 : vp_in (nI (32 * c + i)) 512 := vp_in_nI (by omega) (by omega)
    exact ⟨hi1, hi2, nm_e ⟨hi1, hi2, nm_e (nm_r (nI_1 i) (hn (_, _) rfl))⟩⟩
theorem px_remS {post : St2 → Prop} {c b : Nat} (hc : c < 16) (hb : b < 32) (hbc : bc c = nI (b + 1)) (h : post (f0, ms, ca, pe, vi, upd bc c (nI b), pt_sh 1 (32 * c) bs b, ec, ep, ed)) :
    wpX_removeOldestSize post (f0, ms, ca, pe, vi, bc, bs, ec, ep, ed) (nI c) := by
  unfold wpX_removeOldestSize
  have hcc : (nI c).toNatClampNeg = c := nI_clamp (by omega)
  have hi : vp_in (nI c) 16 := vp_in_nI hc (by omega)
  refine nm_r (pt_c32 c) ⟨hi, ?_⟩
  rw [hcc, hbc, nI_pred]
  refine nm_e ?_
  refine loop_0 (fun k i s => wX_removeOldestSize_17 post (nI c) (nI (32 * c)) (nI b) f0 k (nI i) ms ca pe vi bc s ec ep ed) (fun i s => s = pt_sh 1 (32 * c) bs i) b bs rfl ?_ ?_
  · rintro k s rfl
    refine pk_le b b (fun _ => ⟨hi, ?_⟩) (fun z => absurd z (by omega))
    rw [hcc]
    exact nm_e h
  · rintro k i s hi' rfl hn
    refine pk_le b i (fun z => absurd z (by omega)) (fun _ => ?_)
    rw [nI_add, nI_1, nI_clamp (show 32 * c + i + 1 < 2 ^ 31 by omega), nI_clamp (show 32 * c + i < 2 ^ 31 by omega)]
    have hi1 : vp_in (nI (32 * c + i + 1)) 512 := vp_in_nI (by omega) (by omega)
    have hi2 : vp_in (nI (32 * c + i)) 512 := vp_in_nI (by omega) (by omega)
    exact ⟨hi1, hi2, nm_e (nm_r (nI_1 i) (hn _ rfl))⟩
theorem px_deliver0 {post : Int32 → St2 → Prop} {s r : Nat} (hW : W ≤ 4) (hs : s < W) (hr : r < W) (h0 : bc (4 * s + r) = 0) (h : post (-8) (nI W, ms, ca, pe, vi, bc, bs, ec, ep, ed)) :
    wpX_deliver post (nI W, ms, ca, pe, vi, bc, bs, ec, ep, ed) (nI s) (nI r) := by
  unfold wpX_deliver
  refine px_isW hW hs (br_f pt_10 (px_isW hW hr (br_f pt_10 (px_chan ⟨vp_in_nI (by omega) (by omega), ?_⟩))))
  rw [nI_clamp (by omega)]
  exact br_t h0 h
theorem px_deliver {post : Int32 → St2 → Prop} {s r a : Nat} {l : List Nat} (hW : W ≤ 4) (hs : s < W) (hr : r < W) (he : ∀ i, ∃ p, p < 64 ∧ ep i = nI p) (hl : pt_ch (a :: l) (4 * s + r) bc bs ec)
    (h : post (nI a) (nI W, ms, ca, pe, pt_vw ep ed (32 * (4 * s + r)) (64 * r) vi a, upd bc (4 * s + r) (nI l.length), pt_sh 1 (32 * (4 * s + r)) bs l.length, upd ec (4 * s + r) (nI (pt_sum l)), pt_sh a (32 * (4 * s + r)) ep (pt_sum l), pt_sh a (32 * (4 * s + r)) ed (pt_sum l))) :
    wpX_deliver post (nI W, ms, ca, pe, vi, bc, bs, ec, ep, ed) (nI s) (nI r) := by
  have hsum : a + pt_sum l ≤ 32 := hl.2.1
  have hec : ec (4 * s + r) = nI (a + pt_sum l) := hl.2.2.2.1
  have hbc : bc (4 * s + r) = nI (l.length + 1) := hl.2.2.1
  have hbs : bs (32 * (4 * s + r)) = nI a := hl.2.2.2.2.1
  have hlen := pt_len_sum (pt_all1_c hl.1).2
  have ha1 := (pt_all1_c hl.1).1
  unfold wpX_deliver
  refine px_isW hW hs (br_f pt_10 (px_isW hW hr (br_f pt_10 (px_chan ⟨vp_in_nI (by omega) (by omega), ?_⟩))))
  rw [nI_clamp (by omega)]
  refine br_f (by rw [hbc]; exact nI_ne0 (by omega) (by omega)) ?_
  rw [pt_c32, nI_clamp (by omega), hbs]
  refine ⟨vp_in_nI (by omega) (by omega), nm_e ?_⟩
  refine px_apply (by omega) (by omega) (by omega) he ?_
  refine px_remE (by omega) hsum hec ?_
  exact px_remS (by omega) (by omega) hbc h
end
