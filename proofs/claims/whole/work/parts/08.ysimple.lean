/-! Y: the small methods, and the calls that change one worker's counts -/
section
variable {ms ca pe vi ps dl st ln : Nat → Int32} {W : Nat} {f0 : Int32}
theorem py_ok1 {post : Int32 → Prop} {a : Nat} (ha : a < 4) (h : post 1) : wpY_ok post (f0, ms, ca, pe, vi, ps, dl, st, ln) (nI a) :=
  br_f (nI_pos (by omega)) (br_f (nI_nlt (a := 3) (b := a) (by omega) (by decide)) h)
theorem py_okn {post : Int32 → Prop} {x : Int32} (hx : ¬ pt_ok x) (h : post 0) : wpY_ok post (f0, ms, ca, pe, vi, ps, dl, st, ln) x := by
  rcases pk_ix x (n := 4) (by decide) with z | z | z
  · exact br_t z h
  · exact br_c (fun _ => h) (fun _ => br_t (pt_3lt z) h)
  · exact absurd z hx
theorem py_okc {post : Int32 → Prop} {x : Int32} (h1 : pt_ok x → post 1) (h0 : ¬ pt_ok x → post 0) : wpY_ok post (f0, ms, ca, pe, vi, ps, dl, st, ln) x := by
  by_cases h : pt_ok x
  · obtain ⟨a, ha, rfl⟩ := h
    exact py_ok1 ha (h1 ⟨a, ha, rfl⟩)
  · exact py_okn h (h0 h)
theorem py_okWc {post : Int32 → Prop} {x : Int32} (hW : W ≤ 4) (h1 : pt_okW W x → post 1) (h0 : ¬ pt_okW W x → post 0) : wpY_okW post (nI W, ms, ca, pe, vi, ps, dl, st, ln) x := by
  rcases pk_ix x (n := W) (by omega) with z | z | z
  · exact br_t z (h0 (fun t => by obtain ⟨j, hj, rfl⟩ := t; exact nI_pos (by omega) z))
  · exact br_c (fun y => h0 (fun t => by obtain ⟨j, hj, rfl⟩ := t; exact nI_pos (by omega) y)) (fun _ => br_t z (h0 (fun t => by obtain ⟨j, hj, rfl⟩ := t; exact nI_ge hj (by omega) z)))
  · obtain ⟨j, hj, rfl⟩ := z
    exact br_f (nI_pos (by omega)) (br_f (nI_ge hj (by omega)) (h1 ⟨j, hj, rfl⟩))
theorem py_g4 {bad body : Prop} {x a b c : Int32} (hW : W ≤ 4) (h0 : ¬ (pt_okW W x ∧ pt_ok a ∧ pt_ok b ∧ pt_ok c) → bad) (h1 : pt_okW W x → pt_ok a → pt_ok b → pt_ok c → body) :
    wpY_okW (fun r => (r = 0 → bad) ∧ (¬ r = 0 → wpY_ok (fun r1 => (r1 = 0 → bad) ∧ (¬ r1 = 0 → wpY_ok (fun r2 => (r2 = 0 → bad) ∧ (¬ r2 = 0 → wpY_ok (fun r3 => (r3 = 0 → bad) ∧ (¬ r3 = 0 → body)) (nI W, ms, ca, pe, vi, ps, dl, st, ln) c)) (nI W, ms, ca, pe, vi, ps, dl, st, ln) b)) (nI W, ms, ca, pe, vi, ps, dl, st, ln) a)) (nI W, ms, ca, pe, vi, ps, dl, st, ln) x :=
  py_okWc hW (fun k0 => br_f pt_10 (py_okc (fun k1 => br_f pt_10 (py_okc (fun k2 => br_f pt_10 (py_okc (fun k3 => br_f pt_10 (h1 k0 k1 k2 k3)) (fun n => br_t rfl (h0 (fun t => n t.2.2.2))))) (fun n => br_t rfl (h0 (fun t => n t.2.2.1))))) (fun n => br_t rfl (h0 (fun t => n t.2.1))))) (fun n => br_t rfl (h0 (fun t => n t.1)))
theorem py_g3 {bad body : Prop} {a b c : Int32} (h0 : ¬ (pt_ok a ∧ pt_ok b ∧ pt_ok c) → bad) (h1 : pt_ok a → pt_ok b → pt_ok c → body) :
    wpY_ok (fun r1 => (r1 = 0 → bad) ∧ (¬ r1 = 0 → wpY_ok (fun r2 => (r2 = 0 → bad) ∧ (¬ r2 = 0 → wpY_ok (fun r3 => (r3 = 0 → bad) ∧ (¬ r3 = 0 → body)) (f0, ms, ca, pe, vi, ps, dl, st, ln) c)) (f0, ms, ca, pe, vi, ps, dl, st, ln) b)) (f0, ms, ca, pe, vi, ps, dl, st, ln) a :=
  py_okc (fun k1 => br_f pt_10 (py_okc (fun k2 => br_f pt_10 (py_okc (fun k3 => br_f pt_10 (h1 k1 k2 k3)) (fun n => br_t rfl (h0 (fun t => n t.2.2))))) (fun n => br_t rfl (h0 (fun t => n t.2.1))))) (fun n => br_t rfl (h0 (fun t => n t.1)))
theorem py_g2 {bad body : Prop} {x a : Int32} (hW : W ≤ 4) (h0 : ¬ (pt_okW W x ∧ pt_ok a) → bad) (h1 : pt_okW W x → pt_ok a → body) :
    wpY_okW (fun r => (r = 0 → bad) ∧ (¬ r = 0 → wpY_ok (fun r1 => (r1 = 0 → bad) ∧ (¬ r1 = 0 → body)) (nI W, ms, ca, pe, vi, ps, dl, st, ln) a)) (nI W, ms, ca, pe, vi, ps, dl, st, ln) x :=
  py_okWc hW (fun k0 => br_f pt_10 (py_okc (fun k1 => br_f pt_10 (h1 k0 k1)) (fun n => br_t rfl (h0 (fun t => n t.2))))) (fun n => br_t rfl (h0 (fun t => n t.1)))
theorem py_gWW {bad body : Prop} {x a : Int32} (hW : W ≤ 4) (h0 : ¬ (pt_okW W x ∧ pt_okW W a) → bad) (h1 : pt_okW W x → pt_okW W a → body) :
    wpY_okW (fun r => (r = 0 → bad) ∧ (¬ r = 0 → wpY_okW (fun r1 => (r1 = 0 → bad) ∧ (¬ r1 = 0 → body)) (nI W, ms, ca, pe, vi, ps, dl, st, ln) a)) (nI W, ms, ca, pe, vi, ps, dl, st, ln) x :=
  py_okWc hW (fun k0 => br_f pt_10 (py_okWc hW (fun k1 => br_f pt_10 (h1 k0 k1)) (fun n => br_t rfl (h0 (fun t => n t.2))))) (fun n => br_t rfl (h0 (fun t => n t.1)))
theorem py_idx {post : Int32 → Prop} {a b c : Nat} (h : post (nI (16 * a + 4 * b + c))) : wpY_idx post (f0, ms, ca, pe, vi, ps, dl, st, ln) (nI a) (nI b) (nI c) := by
  show post (nI a * 16 + nI b * 4 + nI c)
  rw [pt_ixE]
  exact h
theorem py_after {post : Int32 → Prop} {w : Nat} {q1 d1 q2 d2 : Int32} {g : Nat → Int32} (hw : w < 4)
    (hg : ∀ p, p < 64 → g (64 * w + p) = (if nI p = q2 then (if nI p = q1 then pe (64 * w + p) + d1 else pe (64 * w + p)) + d2 else (if nI p = q1 then pe (64 * w + p) + d1 else pe (64 * w + p))))
    (h : post (nI (pt_cnt g (64 * w) 64))) : wpY_entriesAfter post (f0, ms, ca, pe, vi, ps, dl, st, ln) (nI w) q1 d1 q2 d2 := by
  refine loop_0 (fun k i s => wY_entriesAfter_6 post (nI w) q1 d1 q2 d2 f0 ms ca pe vi ps dl st ln k s (nI i)) (fun i s => s = nI (pt_cnt g (64 * w) i)) 64 0 rfl ?_ ?_
  · rintro k s rfl
    exact pk_le 64 64 (fun _ => h) (fun z => absurd z (by omega))
  · rintro k i s hi rfl hn
    have hgi := hg i hi
    have fin : ∀ x, x = g (64 * w + i) → wY_entriesAfter_53 post (wY_entriesAfter_6 post (nI w) q1 d1 q2 d2 f0 ms ca pe vi ps dl st ln k) (nI w) q1 d1 q2 d2 (nI (pt_cnt g (64 * w) i)) (nI i) x f0 ms ca pe vi ps dl st ln := by
      rintro x rfl
      unfold wY_entriesAfter_53
      by_cases z : g (64 * w + i) = 0
      · refine br_t z (nm_r (nI_1 i) (hn _ ?_))
        rw [pt_cnt_s, pt_nz_0 z]
        rfl
      · refine br_f z (nm_e (nm_r (nI_1 i) (hn _ ?_)))
        rw [pt_cnt_s, pt_nz_1 z, nI_1]
    have mid : ∀ x, x = (if nI i = q1 then pe (64 * w + i) + d1 else pe (64 * w + i)) → wY_entriesAfter_39 post (wY_entriesAfter_6 post (nI w) q1 d1 q2 d2 f0 ms ca pe vi ps dl st ln k) (nI w) q1 d1 q2 d2 (nI (pt_cnt g (64 * w) i)) (nI i) x f0 ms ca pe vi ps dl st ln := by
      intro x hx
      unfold wY_entriesAfter_39
      by_cases y : nI i = q2
      · rw [if_pos y, ← hx] at hgi
        exact br_t y (nm_e (fin _ hgi.symm))
      · rw [if_neg y, ← hx] at hgi
        exact br_f y (fin _ hgi.symm)
    refine pk_le 64 i (fun z => absurd z (by omega)) (fun _ => ⟨pk_in (64 * w + i) 256 (by omega) (pt_w64 w i), ?_⟩)
    rw [pt_w64, nI_clamp (show 64 * w + i < 2 ^ 31 by omega)]
    refine nm_e ?_
    by_cases y : nI i = q1
    · exact br_t y (nm_e (mid _ (if_pos y).symm))
    · exact br_f y (mid _ (if_neg y).symm)
theorem py_after0 {post : Int32 → Prop} {w : Nat} (hw : w < 4) (h : post (nI (pt_cnt pe (64 * w) 64))) : wpY_entriesAfter post (f0, ms, ca, pe, vi, ps, dl, st, ln) (nI w) (-1) 0 (-1) 0 := by
  refine py_after (g := pe) hw (fun p hp => ?_) h
  rw [if_neg (pt_nIm1 (by omega)), if_neg (pt_nIm1 (by omega))]
theorem py_after1 {post : Int32 → Prop} {w q : Nat} {d : Int32} (hw : w < 4) (hq : q < 64) (h : post (nI (pt_aft pe w q (pe (64 * w + q) + d)))) : wpY_entriesAfter post (f0, ms, ca, pe, vi, ps, dl, st, ln) (nI w) (nI q) d (-1) 0 := by
  refine py_after (g := upd pe (64 * w + q) (pe (64 * w + q) + d)) hw (fun p hp => ?_) h
  rw [if_neg (pt_nIm1 (by omega))]
  by_cases e : p = q
  · rw [e, pk_us, if_pos rfl]
  · rw [pk_un (by omega), if_neg (fun t => e ((nI_eq (by omega) (by omega)).mp t))]
theorem py_after2 {post : Int32 → Prop} {w q1 q2 : Nat} {d1 d2 : Int32} (hw : w < 4) (h1 : q1 < 64) (h2 : q2 < 64) (hne : q1 ≠ q2) (h : post (nI (pt_aft2 pe w q1 q2 (pe (64 * w + q1) + d1) (pe (64 * w + q2) + d2)))) : wpY_entriesAfter post (f0, ms, ca, pe, vi, ps, dl, st, ln) (nI w) (nI q1) d1 (nI q2) d2 := by
  refine py_after (g := upd (upd pe (64 * w + q1) (pe (64 * w + q1) + d1)) (64 * w + q2) (pe (64 * w + q2) + d2)) hw (fun p hp => ?_) h
  by_cases e : p = q2
  · rw [e, pk_us, if_pos rfl, if_neg (fun t => hne ((nI_eq (by omega) (by omega)).mp t).symm)]
  · rw [pk_un (by omega), if_neg (fun t => e ((nI_eq (by omega) (by omega)).mp t))]
    by_cases e' : p = q1
    · rw [e', pk_us, if_pos rfl]
    · rw [pk_un (by omega), if_neg (fun t => e' ((nI_eq (by omega) (by omega)).mp t))]
theorem py_send98 {post : Int32 → SY → Prop} {w e r f t r2 : Nat} (hw : w < 4) (he : e < 4) (hr : r < 4) (hf : f < 4) (ht : t < 4) (hr2 : r2 < 5)
    (h2 : ca (64 * w + (16 * f + 4 * e + r)) = 0 → post (-2) (f0, ms, ca, pe, vi, ps, dl, st, ln))
    (h4 : ¬ ca (64 * w + (16 * f + 4 * e + r)) = 0 → 3 < r2 → post (-4) (f0, ms, ca, pe, vi, ps, dl, st, ln))
    (h6 : ¬ ca (64 * w + (16 * f + 4 * e + r)) = 0 → r2 ≤ 3 → 16 < pt_aft pe w (16 * t + 4 * e + r2) (pe (64 * w + (16 * t + 4 * e + r2)) + 1) → post (-6) (f0, ms, ca, pe, vi, ps, dl, st, ln))
    (h0 : ¬ ca (64 * w + (16 * f + 4 * e + r)) = 0 → r2 ≤ 3 → pt_aft pe w (16 * t + 4 * e + r2) (pe (64 * w + (16 * t + 4 * e + r2)) + 1) ≤ 16 →
      post 0 (f0, upd ms (16 * t + 4 * e + r2) (ms (16 * t + 4 * e + r2) + 1), ca, upd pe (64 * w + (16 * t + 4 * e + r2)) (pe (64 * w + (16 * t + 4 * e + r2)) + 1), vi, ps, dl, st, ln)) :
    wY_send_98 post (nI w) (nI e) (nI r) (nI f) (nI t) (nI r2) f0 ms ca pe vi ps dl st ln := by
  have hal := pt_aft_le pe w (16 * t + 4 * e + r2) (pe (64 * w + (16 * t + 4 * e + r2)) + 1)
  unfold wY_send_98
  refine py_idx ?_
  rw [pt_w64, nI_clamp (by omega)]
  refine ⟨vp_in_nI (by omega) (by omega), br_c h2 (fun hc => pk_le r2 3 (fun h3 => py_idx (py_after1 hw (by omega) ?_)) (fun h3 => h4 hc h3))⟩
  have hi1 : vp_in (nI (16 * t + 4 * e + r2)) 64 := vp_in_nI (by omega) (by omega)
  have hi2 : vp_in (nI (64 * w + (16 * t + 4 * e + r2))) 256 := vp_in_nI (by omega) (by omega)
  rw [pt_w64, nI_clamp (show 16 * t + 4 * e + r2 < 2 ^ 31 by omega), nI_clamp (show 64 * w + (16 * t + 4 * e + r2) < 2 ^ 31 by omega)]
  exact pk_le _ 16 (fun h => ⟨hi1, hi1, nm_e ⟨hi2, hi2, nm_e (h0 hc h3 h)⟩⟩) (fun h => h6 hc h3 h)
theorem py_send {post : Int32 → SY → Prop} {w d e r : Nat} (hW : W ≤ 4) (hw : w < W) (hd : d < 4) (he : e < 4) (hr : r < 4)
    (h2 : ca (64 * w + (16 * pt_fr d + 4 * e + r)) = 0 → post (-2) (nI W, ms, ca, pe, vi, ps, dl, st, ln))
    (h4 : ¬ ca (64 * w + (16 * pt_fr d + 4 * e + r)) = 0 → 3 < pt_r2 d r → post (-4) (nI W, ms, ca, pe, vi, ps, dl, st, ln))
    (h6 : ¬ ca (64 * w + (16 * pt_fr d + 4 * e + r)) = 0 → pt_r2 d r ≤ 3 → 16 < pt_aft pe w (16 * pt_to d + 4 * e + pt_r2 d r) (pe (64 * w + (16 * pt_to d + 4 * e + pt_r2 d r)) + 1) → post (-6) (nI W, ms, ca, pe, vi, ps, dl, st, ln))
    (h0 : ¬ ca (64 * w + (16 * pt_fr d + 4 * e + r)) = 0 → pt_r2 d r ≤ 3 → pt_aft pe w (16 * pt_to d + 4 * e + pt_r2 d r) (pe (64 * w + (16 * pt_to d + 4 * e + pt_r2 d r)) + 1) ≤ 16 →
      post 0 (nI W, upd ms (16 * pt_to d + 4 * e + pt_r2 d r) (ms (16 * pt_to d + 4 * e + pt_r2 d r) + 1), ca, upd pe (64 * w + (16 * pt_to d + 4 * e + pt_r2 d r)) (pe (64 * w + (16 * pt_to d + 4 * e + pt_r2 d r)) + 1), vi, ps, dl, st, ln)) :
    wpY_send post (nI W, ms, ca, pe, vi, ps, dl, st, ln) (nI w) (nI d) (nI e) (nI r) := by
  unfold wpY_send
  refine py_g4 hW (fun n => absurd ⟨⟨w, hw, rfl⟩, ⟨d, hd, rfl⟩, ⟨e, he, rfl⟩, ⟨r, hr, rfl⟩⟩ n) (fun _ _ _ _ => ?_)
  unfold wY_send_53 wY_send_82
  have c : d = 0 ∨ d = 1 ∨ d = 2 ∨ d = 3 := by omega
  rcases c with rfl | rfl | rfl | rfl
  · exact br_t rfl (br_t rfl (br_f (by decide) (py_send98 (f := 0) (t := 1) (r2 := r) (by omega) he hr (by omega) (by omega) (by omega) h2 h4 h6 h0)))
  · exact br_f (by decide) (br_t rfl (br_f (by decide) (br_t rfl (br_f (by decide) (py_send98 (f := 1) (t := 2) (r2 := r) (by omega) he hr (by omega) (by omega) (by omega) h2 h4 h6 h0)))))
  · refine br_f (by decide) (br_f (by decide) (br_f (by decide) (br_f (by decide) (br_t rfl (br_t rfl ?_)))))
    rw [nI_1]
    exact py_send98 (f := 2) (t := 1) (r2 := r + 1) (by omega) he hr (by omega) (by omega) (by omega) h2 h4 h6 h0
  · exact br_f (by decide) (br_f (by decide) (br_f (by decide) (br_f (by decide) (br_f (by decide) (br_f (by decide) (py_send98 (f := 2) (t := 3) (r2 := r) (by omega) he hr (by omega) (by omega) (by omega) h2 h4 h6 h0))))))
theorem py_receive {post : Int32 → SY → Prop} {w a e r : Nat} (hW : W ≤ 4) (hw : w < W) (ha : a < 4) (he : e < 4) (hr : r < 4)
    (h3 : ms (16 * a + 4 * e + r) = 0 → post (-3) (nI W, ms, ca, pe, vi, ps, dl, st, ln))
    (h0 : ¬ ms (16 * a + 4 * e + r) = 0 → post 0 (nI W, upd ms (16 * a + 4 * e + r) (ms (16 * a + 4 * e + r) - 1), upd ca (64 * w + (16 * a + 4 * e + r)) (ca (64 * w + (16 * a + 4 * e + r)) + 1), pe, vi, ps, dl, st, ln)) :
    wpY_receive post (nI W, ms, ca, pe, vi, ps, dl, st, ln) (nI w) (nI a) (nI e) (nI r) := by
  unfold wpY_receive
  refine py_g4 hW (fun n => absurd ⟨⟨w, hw, rfl⟩, ⟨a, ha, rfl⟩, ⟨e, he, rfl⟩, ⟨r, hr, rfl⟩⟩ n) (fun _ _ _ _ => py_idx ?_)
  have hi1 : vp_in (nI (16 * a + 4 * e + r)) 64 := vp_in_nI (by omega) (by omega)
  have hi2 : vp_in (nI (64 * w + (16 * a + 4 * e + r))) 256 := vp_in_nI (by omega) (by omega)
  rw [pt_w64, nI_clamp (show 16 * a + 4 * e + r < 2 ^ 31 by omega), nI_clamp (show 64 * w + (16 * a + 4 * e + r) < 2 ^ 31 by omega)]
  exact ⟨hi1, br_c h3 (fun hc => ⟨hi1, hi1, nm_e ⟨hi2, hi2, nm_e (h0 hc)⟩⟩)⟩
theorem py_drop {post : Int32 → SY → Prop} {w a e r : Nat} (hW : W ≤ 4) (hw : w < W) (ha : a < 4) (he : e < 4) (hr : r < 4)
    (h2 : ca (64 * w + (16 * a + 4 * e + r)) = 0 → post (-2) (nI W, ms, ca, pe, vi, ps, dl, st, ln))
    (h6 : ¬ ca (64 * w + (16 * a + 4 * e + r)) = 0 → 16 < pt_aft pe w (16 * a + 4 * e + r) (pe (64 * w + (16 * a + 4 * e + r)) + (-1)) → post (-6) (nI W, ms, ca, pe, vi, ps, dl, st, ln))
    (h0 : ¬ ca (64 * w + (16 * a + 4 * e + r)) = 0 → pt_aft pe w (16 * a + 4 * e + r) (pe (64 * w + (16 * a + 4 * e + r)) + (-1)) ≤ 16 →
      post 0 (nI W, ms, upd ca (64 * w + (16 * a + 4 * e + r)) (ca (64 * w + (16 * a + 4 * e + r)) - 1), upd pe (64 * w + (16 * a + 4 * e + r)) (pe (64 * w + (16 * a + 4 * e + r)) - 1), vi, ps, dl, st, ln)) :
    wpY_drop post (nI W, ms, ca, pe, vi, ps, dl, st, ln) (nI w) (nI a) (nI e) (nI r) := by
  have hal := pt_aft_le pe w (16 * a + 4 * e + r) (pe (64 * w + (16 * a + 4 * e + r)) + (-1))
  unfold wpY_drop
  refine py_g4 hW (fun n => absurd ⟨⟨w, hw, rfl⟩, ⟨a, ha, rfl⟩, ⟨e, he, rfl⟩, ⟨r, hr, rfl⟩⟩ n) (fun _ _ _ _ => py_idx ?_)
  have hi2 : vp_in (nI (64 * w + (16 * a + 4 * e + r))) 256 := vp_in_nI (by omega) (by omega)
  rw [pt_w64, nI_clamp (show 64 * w + (16 * a + 4 * e + r) < 2 ^ 31 by omega)]
  exact ⟨hi2, br_c h2 (fun hc => py_after1 (by omega) (by omega) (pk_le _ 16 (fun h => ⟨hi2, hi2, nm_e ⟨hi2, hi2, nm_e (h0 hc h)⟩⟩) (fun h => h6 hc h)))⟩
theorem py_adv {post : Int32 → SY → Prop} {w e : Nat} (hW : W ≤ 4) (hw : w < W) (he : e < 4)
    (h2 : ca (64 * w + 4 * e) = 0 → post (-2) (nI W, ms, ca, pe, vi, ps, dl, st, ln))
    (h5 : ¬ ca (64 * w + 4 * e) = 0 → e = 3 → post (-5) (nI W, ms, ca, pe, vi, ps, dl, st, ln))
    (h6 : ¬ ca (64 * w + 4 * e) = 0 → e < 3 → 16 < pt_aft2 pe w (4 * e) (4 * (e + 1)) (pe (64 * w + 4 * e) + (-1)) (pe (64 * w + 4 * (e + 1)) + 1) → post (-6) (nI W, ms, ca, pe, vi, ps, dl, st, ln))
    (h0 : ¬ ca (64 * w + 4 * e) = 0 → e < 3 → pt_aft2 pe w (4 * e) (4 * (e + 1)) (pe (64 * w + 4 * e) + (-1)) (pe (64 * w + 4 * (e + 1)) + 1) ≤ 16 →
      post 0 (nI W, ms, upd (upd ca (64 * w + 4 * e) (ca (64 * w + 4 * e) - 1)) (64 * w + 4 * (e + 1)) (upd ca (64 * w + 4 * e) (ca (64 * w + 4 * e) - 1) (64 * w + 4 * (e + 1)) + 1), upd (upd pe (64 * w + 4 * e) (pe (64 * w + 4 * e) - 1)) (64 * w + 4 * (e + 1)) (upd pe (64 * w + 4 * e) (pe (64 * w + 4 * e) - 1) (64 * w + 4 * (e + 1)) + 1), vi, ps, dl, st, ln)) :
    wpY_advanceInput post (nI W, ms, ca, pe, vi, ps, dl, st, ln) (nI w) (nI e) := by
  have hal := pt_aft2_le pe w (4 * e) (4 * (e + 1)) (pe (64 * w + 4 * e) + (-1)) (pe (64 * w + 4 * (e + 1)) + 1)
  unfold wpY_advanceInput
  refine py_g2 hW (fun n => absurd ⟨⟨w, hw, rfl⟩, ⟨e, he, rfl⟩⟩ n) (fun _ _ => py_idx (a := 0) (c := 0) ?_)
  have hi1 : vp_in (nI (64 * w + 4 * e)) 256 := vp_in_nI (by omega) (by omega)
  rw [show 16 * 0 + 4 * e + 0 = 4 * e by omega, pt_w64, nI_clamp (show 64 * w + 4 * e < 2 ^ 31 by omega)]
  refine ⟨hi1, br_c h2 (fun hc => pk_eq e 3 (fun z => h5 hc z) (fun z => ?_))⟩
  rw [nI_1 e]
  refine py_idx (a := 0) (c := 0) ?_
  have hi2 : vp_in (nI (64 * w + 4 * (e + 1))) 256 := vp_in_nI (by omega) (by omega)
  rw [show 16 * 0 + 4 * (e + 1) + 0 = 4 * (e + 1) by omega, pt_w64, nI_clamp (show 64 * w + 4 * (e + 1) < 2 ^ 31 by omega)]
  exact py_after2 (by omega) (by omega) (by omega) (by omega) (pk_le _ 16 (fun h => ⟨hi1, hi1, nm_e ⟨hi2, hi2, nm_e ⟨hi1, hi1, nm_e ⟨hi2, hi2, nm_e (h0 hc (by omega) h)⟩⟩⟩⟩) (fun h => h6 hc (by omega) h))
end
