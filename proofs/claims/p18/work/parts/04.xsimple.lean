/-! X: the small methods, and the calls that change one worker's counts -/
def pt_okW (W : Nat) (x : Int32) : Prop := ∃ j, j < W ∧ x = nI j
def pt_ok (x : Int32) : Prop := ∃ j, j < 4 ∧ x = nI j
def pt_fr (d : Nat) : Nat := if d = 0 then 0 else if d = 1 then 1 else 2
def pt_to (d : Nat) : Nat := if d = 1 then 2 else if d = 3 then 3 else 1
def pt_r2 (d r : Nat) : Nat := if d = 2 then r + 1 else r
theorem pt_10 : ¬ (1 : Int32) = 0 := by decide
theorem pt_fr_lt (d : Nat) : pt_fr d < 3 := by unfold pt_fr; split <;> (try split) <;> omega
theorem pt_to_lt (d : Nat) : pt_to d < 4 := by unfold pt_to; split <;> (try split) <;> omega
theorem pt_w64 (w p : Nat) : nI w * 64 + nI p = nI (64 * w + p) := by
  rw [show (64 : Int32) = nI 64 from rfl, pk_mul, nI_add, Nat.mul_comm]
theorem pt_w4 (w p : Nat) : nI w * 4 + nI p = nI (4 * w + p) := by
  rw [show (4 : Int32) = nI 4 from rfl, pk_mul, nI_add, Nat.mul_comm]
theorem pt_c32 (c : Nat) : nI c * 32 = nI (32 * c) := by
  rw [show (32 : Int32) = nI 32 from rfl, pk_mul, Nat.mul_comm]
theorem pt_ixE (a b c : Nat) : nI a * 16 + nI b * 4 + nI c = nI (16 * a + 4 * b + c) := by
  rw [show (16 : Int32) = nI 16 from rfl, show (4 : Int32) = nI 4 from rfl, pk_mul, pk_mul, nI_add, nI_add, Nat.mul_comm a, Nat.mul_comm b]
theorem pt_place (w a b c : Nat) : nI w * 64 + (nI a * 16 + nI b * 4 + nI c) = nI (64 * w + (16 * a + 4 * b + c)) := by
  rw [pt_ixE, pt_w64]
theorem pt_gainE {c a b m : Nat} (h : m + b = c + a) : nI c + (nI a - nI b) = nI m := by
  have e : nI m + nI b = nI c + nI a := by rw [nI_add, nI_add, h]
  rw [Int32.sub_eq_add_neg, ← Int32.add_assoc, ← e, Int32.add_assoc, Int32.add_right_neg, Int32.add_zero]
section
variable {ms ca pe vi bc bs ec ep ed : Nat → Int32} {W : Nat} {f0 : Int32}
theorem px_isW {post : Int32 → Prop} {w : Nat} (hW : W ≤ 4) (hw : w < W) (h : post 1) : wpX_isWorker post (nI W, ms, ca, pe, vi, bc, bs, ec, ep, ed) (nI w) :=
  br_f (nI_pos (by omega)) (br_f (nI_ge hw (by omega)) h)
theorem px_isWn {post : Int32 → Prop} {x : Int32} (hW : W ≤ 4) (hx : ¬ pt_okW W x) (h : post 0) : wpX_isWorker post (nI W, ms, ca, pe, vi, bc, bs, ec, ep, ed) x := by
  rcases pk_ix x (n := W) (by omega) with z | z | z
  · exact br_t z h
  · exact br_c (fun _ => h) (fun _ => br_t z h)
  · exact absurd z hx
theorem px_inR {post : Int32 → Prop} {a : Nat} (ha : a < 4) (h : post 1) : wpX_isInRange post () (nI a) :=
  br_f (nI_pos (by omega)) (br_f (nI_nlt (a := 3) (b := a) (by omega) (by decide)) h)
theorem pt_3lt {x : Int32} (h : nI 4 ≤ x) : 3 < x := by
  rw [Int32.lt_iff_toInt_lt]
  rw [Int32.le_iff_toInt_le, nI_toInt (by decide)] at h
  have e : (3 : Int32).toInt = 3 := by decide
  omega
theorem px_inRn {post : Int32 → Prop} {x : Int32} (hx : ¬ pt_ok x) (h : post 0) : wpX_isInRange post () x := by
  rcases pk_ix x (n := 4) (by decide) with z | z | z
  · exact br_t z h
  · exact br_c (fun _ => h) (fun _ => br_t (pt_3lt z) h)
  · exact absurd z hx
theorem px_areR {post : Int32 → Prop} {a b c : Nat} (ha : a < 4) (hb : b < 4) (hc : c < 4) (h : post 1) : wpX_areInRange post () (nI a) (nI b) (nI c) := by
  unfold wpX_areInRange
  exact px_inR ha (br_f pt_10 (px_inR hb (br_f pt_10 (px_inR hc (br_f pt_10 h)))))
theorem px_areRn {post : Int32 → Prop} {x y z : Int32} (hn : ¬ (pt_ok x ∧ pt_ok y ∧ pt_ok z)) (h : post 0) : wpX_areInRange post () x y z := by
  unfold wpX_areInRange
  by_cases h1 : pt_ok x
  · obtain ⟨a, ha, rfl⟩ := h1
    refine px_inR ha (br_f pt_10 ?_)
    by_cases h2 : pt_ok y
    · obtain ⟨b, hb, rfl⟩ := h2
      refine px_inR hb (br_f pt_10 ?_)
      exact px_inRn (fun h3 => hn ⟨⟨a, ha, rfl⟩, ⟨b, hb, rfl⟩, h3⟩) (br_t rfl h)
    · exact px_inRn h2 (br_t rfl h)
  · exact px_inRn h1 (br_t rfl h)
theorem px_g4 {bad body : Prop} {x a b c : Int32} (hW : W ≤ 4) (h0 : ¬ (pt_okW W x ∧ pt_ok a ∧ pt_ok b ∧ pt_ok c) → bad) (h1 : pt_okW W x → pt_ok a → pt_ok b → pt_ok c → body) :
    wpX_isWorker (fun r => (r = 0 → bad) ∧ (¬ r = 0 → wpX_areInRange (fun r' => (r' = 0 → bad) ∧ (¬ r' = 0 → body)) () a b c)) (nI W, ms, ca, pe, vi, bc, bs, ec, ep, ed) x := by
  by_cases hx : pt_okW W x
  · obtain ⟨w, hw, rfl⟩ := hx
    refine px_isW hW hw (br_f pt_10 ?_)
    by_cases ha : pt_ok a ∧ pt_ok b ∧ pt_ok c
    · obtain ⟨⟨a, k1, rfl⟩, ⟨b, k2, rfl⟩, ⟨c, k3, rfl⟩⟩ := ha
      exact px_areR k1 k2 k3 (br_f pt_10 (h1 ⟨w, hw, rfl⟩ ⟨a, k1, rfl⟩ ⟨b, k2, rfl⟩ ⟨c, k3, rfl⟩))
    · exact px_areRn ha (br_t rfl (h0 (fun t => ha t.2)))
  · exact px_isWn hW hx (br_t rfl (h0 (fun t => hx t.1)))
theorem px_g3 {bad body : Prop} {a b c : Int32} (h0 : ¬ (pt_ok a ∧ pt_ok b ∧ pt_ok c) → bad) (h1 : pt_ok a → pt_ok b → pt_ok c → body) :
    wpX_areInRange (fun r' => (r' = 0 → bad) ∧ (¬ r' = 0 → body)) () a b c := by
  by_cases ha : pt_ok a ∧ pt_ok b ∧ pt_ok c
  · obtain ⟨⟨a, k1, rfl⟩, ⟨b, k2, rfl⟩, ⟨c, k3, rfl⟩⟩ := ha
    exact px_areR k1 k2 k3 (br_f pt_10 (h1 ⟨a, k1, rfl⟩ ⟨b, k2, rfl⟩ ⟨c, k3, rfl⟩))
  · exact px_areRn ha (br_t rfl (h0 ha))
theorem px_g2 {bad body : Prop} {x a : Int32} (hW : W ≤ 4) (h0 : ¬ (pt_okW W x ∧ pt_ok a) → bad) (h1 : pt_okW W x → pt_ok a → body) :
    wpX_isWorker (fun r => (r = 0 → bad) ∧ (¬ r = 0 → wpX_isInRange (fun r' => (r' = 0 → bad) ∧ (¬ r' = 0 → body)) () a)) (nI W, ms, ca, pe, vi, bc, bs, ec, ep, ed) x := by
  by_cases hx : pt_okW W x
  · obtain ⟨w, hw, rfl⟩ := hx
    refine px_isW hW hw (br_f pt_10 ?_)
    by_cases ha : pt_ok a
    · obtain ⟨a, k1, rfl⟩ := ha
      exact px_inR k1 (br_f pt_10 (h1 ⟨w, hw, rfl⟩ ⟨a, k1, rfl⟩))
    · exact px_inRn ha (br_t rfl (h0 (fun t => ha t.2)))
  · exact px_isWn hW hx (br_t rfl (h0 (fun t => hx t.1)))
theorem px_gWW {bad body : Prop} {x a : Int32} (hW : W ≤ 4) (h0 : ¬ (pt_okW W x ∧ pt_okW W a) → bad) (h1 : pt_okW W x → pt_okW W a → body) :
    wpX_isWorker (fun r => (r = 0 → bad) ∧ (¬ r = 0 → wpX_isWorker (fun r' => (r' = 0 → bad) ∧ (¬ r' = 0 → body)) (nI W, ms, ca, pe, vi, bc, bs, ec, ep, ed) a)) (nI W, ms, ca, pe, vi, bc, bs, ec, ep, ed) x := by
  by_cases hx : pt_okW W x
  · obtain ⟨w, hw, rfl⟩ := hx
    refine px_isW hW hw (br_f pt_10 ?_)
    by_cases ha : pt_okW W a
    · obtain ⟨a, k1, rfl⟩ := ha
      exact px_isW hW k1 (br_f pt_10 (h1 ⟨w, hw, rfl⟩ ⟨a, k1, rfl⟩))
    · exact px_isWn hW ha (br_t rfl (h0 (fun t => ha t.2)))
  · exact px_isWn hW hx (br_t rfl (h0 (fun t => hx t.1)))
theorem px_place {post : Int32 → Prop} {w a b c : Nat} (h : post (nI (64 * w + (16 * a + 4 * b + c)))) : wpX_placeOf post () (nI w) (nI a) (nI b) (nI c) := by
  show post (nI w * 64 + (nI a * 16 + nI b * 4 + nI c))
  rw [pt_place]
  exact h
theorem px_point {post : Int32 → Prop} {a b c : Nat} (h : post (nI (16 * a + 4 * b + c))) : wpX_pointOf post () (nI a) (nI b) (nI c) := by
  show post (nI a * 16 + nI b * 4 + nI c)
  rw [pt_ixE]
  exact h
theorem px_chan {post : Int32 → Prop} {s r : Nat} (h : post (nI (4 * s + r))) : wpX_channelOf post () (nI s) (nI r) := by
  show post (nI s * 4 + nI r)
  rw [pt_w4]
  exact h
theorem px_before {post : Int32 → Prop} {d : Nat} (hd : d < 4) (h : post (nI (pt_fr d))) : wpX_operatorBefore post () (nI d) := by
  have c : d = 0 ∨ d = 1 ∨ d = 2 ∨ d = 3 := by omega
  rcases c with rfl | rfl | rfl | rfl
  · exact br_t rfl h
  · exact br_f (by decide) (br_t rfl h)
  · exact br_f (by decide) (br_f (by decide) h)
  · exact br_f (by decide) (br_f (by decide) h)
theorem px_after {post : Int32 → Prop} {d : Nat} (hd : d < 4) (h : post (nI (pt_to d))) : wpX_operatorAfter post () (nI d) := by
  have c : d = 0 ∨ d = 1 ∨ d = 2 ∨ d = 3 := by omega
  rcases c with rfl | rfl | rfl | rfl
  · exact br_f (by decide) (br_f (by decide) h)
  · exact br_t rfl h
  · exact br_f (by decide) (br_f (by decide) h)
  · exact br_f (by decide) (br_t rfl h)
theorem px_pend {post : Int32 → Prop} {w : Nat} (hw : w < 4) (h : post (nI (pt_cnt pe (64 * w) 64))) : wpX_pendingEntries post (f0, ms, ca, pe, vi, bc, bs, ec, ep, ed) (nI w) := by
  refine loop_0 (fun n i s => wX_pendingEntries_4 post (nI w) f0 ms ca pe vi bc bs ec ep ed n s (nI i)) (fun i s => s = nI (pt_cnt pe (64 * w) i)) 64 0 rfl ?_ ?_
  · intro n s hs
    exact pk_le 64 64 (fun _ => by rw [hs]; exact h) (fun z => absurd z (by omega))
  · intro n i s hi hs hn
    refine pk_le 64 i (fun z => absurd z (by omega)) (fun _ => ⟨pk_in (64 * w + i) 256 (by omega) (pt_w64 w i), ?_⟩)
    rw [pt_w64, nI_clamp (by omega)]
    by_cases z : pe (64 * w + i) = 0
    · refine br_t z (nm_r (nI_1 i) (hn _ ?_))
      rw [hs, pt_cnt_s, pt_nz_0 z]
      rfl
    · refine br_f z (nm_e (nm_r (nI_1 i) (hn _ ?_)))
      rw [hs, pt_cnt_s, pt_nz_1 z, nI_1]
theorem px_gain {post : Int32 → Prop} {q : Nat} {d : Int32} (hq : q < 256) (h : post (nI (pt_nz (pe q + d)) - nI (pt_nz (pe q)))) : wpX_entriesGained post (f0, ms, ca, pe, vi, bc, bs, ec, ep, ed) (nI q) d := by
  unfold wpX_entriesGained wX_entriesGained_14
  rw [nI_clamp (by omega)]
  have hi : vp_in (nI q) 256 := vp_in_nI hq (by omega)
  refine ⟨hi, ?_⟩
  by_cases z1 : pe q = 0
  · rw [pt_nz_0 z1] at h
    refine br_t z1 ⟨hi, ?_⟩
    by_cases z2 : pe q + d = 0
    · rw [pt_nz_0 z2] at h
      exact br_t z2 h
    · rw [pt_nz_1 z2] at h
      exact br_f z2 h
  · rw [pt_nz_1 z1] at h
    refine br_f z1 ⟨hi, ?_⟩
    by_cases z2 : pe q + d = 0
    · rw [pt_nz_0 z2] at h
      exact br_t z2 h
    · rw [pt_nz_1 z2] at h
      exact br_f z2 h
/-- how many entries worker w has with x at its point p -/
def pt_aft (pe : Nat → Int32) (w p : Nat) (x : Int32) : Nat := pt_cnt (upd pe (64 * w + p) x) (64 * w) 64
theorem pt_aft_le (pe : Nat → Int32) (w p : Nat) (x : Int32) : pt_aft pe w p x ≤ 64 := pt_cnt_le _ _ _
theorem pt_aft_e {w p : Nat} {d : Int32} (hp : p < 64) : nI (pt_cnt pe (64 * w) 64) + (nI (pt_nz (pe (64 * w + p) + d)) - nI (pt_nz (pe (64 * w + p)))) = nI (pt_aft pe w p (pe (64 * w + p) + d)) :=
  pt_gainE (pt_cnt_upd hp)
theorem px_send60 {post : Int32 → St2 → Prop} {w d e r : Nat} (hw : w < 4) (hd : d < 4) (he : e < 4) (hr : r < 5)
    (h4 : 3 < r → post (-4) (f0, ms, ca, pe, vi, bc, bs, ec, ep, ed))
    (h6 : r ≤ 3 → 16 < pt_aft pe w (16 * pt_to d + 4 * e + r) (pe (64 * w + (16 * pt_to d + 4 * e + r)) + 1) → post (-6) (f0, ms, ca, pe, vi, bc, bs, ec, ep, ed))
    (h0 : r ≤ 3 → pt_aft pe w (16 * pt_to d + 4 * e + r) (pe (64 * w + (16 * pt_to d + 4 * e + r)) + 1) ≤ 16 →
      post 0 (f0, upd ms (16 * pt_to d + 4 * e + r) (ms (16 * pt_to d + 4 * e + r) + 1), ca, upd pe (64 * w + (16 * pt_to d + 4 * e + r)) (pe (64 * w + (16 * pt_to d + 4 * e + r)) + 1), vi, bc, bs, ec, ep, ed)) :
    wX_send_60 post (nI w) (nI d) (nI e) (nI r) f0 ms ca pe vi bc bs ec ep ed := by
  have ht := pt_to_lt d
  have hal := pt_aft_le pe w (16 * pt_to d + 4 * e + r) (pe (64 * w + (16 * pt_to d + 4 * e + r)) + 1)
  unfold wX_send_60
  refine pk_le r 3 (fun h3 => ?_) (fun h3 => h4 h3)
  have h6' := h6 h3
  have h0' := h0 h3
  have hp : 16 * pt_to d + 4 * e + r < 64 := by omega
  have hi1 : vp_in (nI (16 * pt_to d + 4 * e + r)) 64 := vp_in_nI hp (by omega)
  have hi2 : vp_in (nI (64 * w + (16 * pt_to d + 4 * e + r))) 256 := vp_in_nI (by omega) (by omega)
  have ec1 : (nI (16 * pt_to d + 4 * e + r)).toNatClampNeg = 16 * pt_to d + 4 * e + r := nI_clamp (by omega)
  have ec2 : (nI (64 * w + (16 * pt_to d + 4 * e + r))).toNatClampNeg = 64 * w + (16 * pt_to d + 4 * e + r) := nI_clamp (by omega)
  refine px_after hd (px_place (px_pend hw (px_gain (by omega) ?_)))
  rw [pt_aft_e hp]
  refine pk_le _ 16 (fun h => px_point ⟨hi1, hi1, ?_⟩) (fun h => h6' h)
  rw [ec1]
  refine nm_e ⟨hi2, hi2, ?_⟩
  rw [ec2]
  exact nm_e (h0' h)
theorem px_send {post : Int32 → St2 → Prop} {w d e r : Nat} (hW : W ≤ 4) (hw : w < W) (hd : d < 4) (he : e < 4) (hr : r < 4)
    (h2 : ca (64 * w + (16 * pt_fr d + 4 * e + r)) = 0 → post (-2) (nI W, ms, ca, pe, vi, bc, bs, ec, ep, ed))
    (h4 : ¬ ca (64 * w + (16 * pt_fr d + 4 * e + r)) = 0 → 3 < pt_r2 d r → post (-4) (nI W, ms, ca, pe, vi, bc, bs, ec, ep, ed))
    (h6 : ¬ ca (64 * w + (16 * pt_fr d + 4 * e + r)) = 0 → pt_r2 d r ≤ 3 → 16 < pt_aft pe w (16 * pt_to d + 4 * e + pt_r2 d r) (pe (64 * w + (16 * pt_to d + 4 * e + pt_r2 d r)) + 1) → post (-6) (nI W, ms, ca, pe, vi, bc, bs, ec, ep, ed))
    (h0 : ¬ ca (64 * w + (16 * pt_fr d + 4 * e + r)) = 0 → pt_r2 d r ≤ 3 → pt_aft pe w (16 * pt_to d + 4 * e + pt_r2 d r) (pe (64 * w + (16 * pt_to d + 4 * e + pt_r2 d r)) + 1) ≤ 16 →
      post 0 (nI W, upd ms (16 * pt_to d + 4 * e + pt_r2 d r) (ms (16 * pt_to d + 4 * e + pt_r2 d r) + 1), ca, upd pe (64 * w + (16 * pt_to d + 4 * e + pt_r2 d r)) (pe (64 * w + (16 * pt_to d + 4 * e + pt_r2 d r)) + 1), vi, bc, bs, ec, ep, ed)) :
    wpX_send post (nI W, ms, ca, pe, vi, bc, bs, ec, ep, ed) (nI w) (nI d) (nI e) (nI r) := by
  have hf := pt_fr_lt d
  unfold wpX_send
  refine px_isW hW hw (br_f pt_10 (px_areR hd he hr (br_f pt_10 (px_before hd (px_place ⟨vp_in_nI (by omega) (by omega), ?_⟩)))))
  rw [nI_clamp (by omega)]
  refine br_c h2 (fun hc => ?_)
  by_cases z : d = 2
  · have e2 : pt_r2 d r = r + 1 := if_pos z
    rw [e2] at h4 h6 h0
    refine br_t (by rw [z]; rfl) ?_
    rw [nI_1]
    exact px_send60 (by omega) hd he (by omega) (h4 hc) (h6 hc) (h0 hc)
  · have e2 : pt_r2 d r = r := if_neg z
    rw [e2] at h4 h6 h0
    refine br_f (fun t => z ((nI_eq (by omega) (by decide)).mp t)) ?_
    exact px_send60 (by omega) hd he (by omega) (h4 hc) (h6 hc) (h0 hc)
theorem px_receive {post : Int32 → St2 → Prop} {w a e r : Nat} (hW : W ≤ 4) (hw : w < W) (ha : a < 4) (he : e < 4) (hr : r < 4)
    (h3 : ms (16 * a + 4 * e + r) = 0 → post (-3) (nI W, ms, ca, pe, vi, bc, bs, ec, ep, ed))
    (h0 : ¬ ms (16 * a + 4 * e + r) = 0 → post 0 (nI W, upd ms (16 * a + 4 * e + r) (ms (16 * a + 4 * e + r) - 1), upd ca (64 * w + (16 * a + 4 * e + r)) (ca (64 * w + (16 * a + 4 * e + r)) + 1), pe, vi, bc, bs, ec, ep, ed)) :
    wpX_receive post (nI W, ms, ca, pe, vi, bc, bs, ec, ep, ed) (nI w) (nI a) (nI e) (nI r) := by
  unfold wpX_receive
  have hi1 : vp_in (nI (16 * a + 4 * e + r)) 64 := vp_in_nI (by omega) (by omega)
  have hi2 : vp_in (nI (64 * w + (16 * a + 4 * e + r))) 256 := vp_in_nI (by omega) (by omega)
  refine px_isW hW hw (br_f pt_10 (px_areR ha he hr (br_f pt_10 (px_point ⟨hi1, ?_⟩))))
  rw [nI_clamp (by omega)]
  refine br_c h3 (fun hc => ⟨hi1, hi1, nm_e (px_place ⟨hi2, hi2, ?_⟩)⟩)
  rw [nI_clamp (by omega)]
  exact nm_e (h0 hc)
theorem px_drop {post : Int32 → St2 → Prop} {w a e r : Nat} (hW : W ≤ 4) (hw : w < W) (ha : a < 4) (he : e < 4) (hr : r < 4)
    (h2 : ca (64 * w + (16 * a + 4 * e + r)) = 0 → post (-2) (nI W, ms, ca, pe, vi, bc, bs, ec, ep, ed))
    (h6 : ¬ ca (64 * w + (16 * a + 4 * e + r)) = 0 → 16 < pt_aft pe w (16 * a + 4 * e + r) (pe (64 * w + (16 * a + 4 * e + r)) + (-1)) → post (-6) (nI W, ms, ca, pe, vi, bc, bs, ec, ep, ed))
    (h0 : ¬ ca (64 * w + (16 * a + 4 * e + r)) = 0 → pt_aft pe w (16 * a + 4 * e + r) (pe (64 * w + (16 * a + 4 * e + r)) + (-1)) ≤ 16 →
      post 0 (nI W, ms, upd ca (64 * w + (16 * a + 4 * e + r)) (ca (64 * w + (16 * a + 4 * e + r)) - 1), upd pe (64 * w + (16 * a + 4 * e + r)) (pe (64 * w + (16 * a + 4 * e + r)) - 1), vi, bc, bs, ec, ep, ed)) :
    wpX_drop post (nI W, ms, ca, pe, vi, bc, bs, ec, ep, ed) (nI w) (nI a) (nI e) (nI r) := by
  have hal := pt_aft_le pe w (16 * a + 4 * e + r) (pe (64 * w + (16 * a + 4 * e + r)) + (-1))
  unfold wpX_drop
  have hi2 : vp_in (nI (64 * w + (16 * a + 4 * e + r))) 256 := vp_in_nI (by omega) (by omega)
  have ec2 : (nI (64 * w + (16 * a + 4 * e + r))).toNatClampNeg = 64 * w + (16 * a + 4 * e + r) := nI_clamp (by omega)
  refine px_isW hW hw (br_f pt_10 (px_areR ha he hr (br_f pt_10 (px_place ⟨hi2, ?_⟩))))
  rw [ec2]
  refine br_c h2 (fun hc => px_pend (by omega) (px_gain (by omega) ?_))
  rw [pt_aft_e (by omega)]
  exact pk_le _ 16 (fun h => ⟨hi2, hi2, nm_e ⟨hi2, hi2, nm_e (h0 hc h)⟩⟩) (fun h => h6 hc h)
end
