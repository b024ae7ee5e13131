/-! a channel's counts and sizes -/
def pt_lay (bs : Nat → Int32) : Nat → List Nat → Prop
  | _, [] => True
  | o, a :: l => bs o = nI a ∧ pt_lay bs (o + 1) l
theorem pt_lay_cong {bs bs' : Nat → Int32} : ∀ {l : List Nat} {o o' : Nat}, (∀ j, j < l.length → bs' (o' + j) = bs (o + j)) → pt_lay bs o l → pt_lay bs' o' l
  | [], _, _, _, _ => trivial
  | a :: l, o, o', h, hb => by
    refine ⟨?_, pt_lay_cong (l := l) (o := o + 1) (o' := o' + 1) (fun j hj => ?_) hb.2⟩
    · have := h 0 (Nat.succ_pos _)
      exact this.trans hb.1
    · have := h (j + 1) (Nat.succ_lt_succ hj)
      rw [show o' + 1 + j = o' + (j + 1) by omega, show o + 1 + j = o + (j + 1) by omega]
      exact this
theorem pt_lay_app {bs : Nat → Int32} {n : Nat} : ∀ {l : List Nat} {o : Nat}, pt_lay bs o l → bs (o + l.length) = nI n → pt_lay bs o (l ++ [n])
  | [], _, _, h => ⟨h, trivial⟩
  | a :: l, o, hb, h => by
    refine ⟨hb.1, pt_lay_app hb.2 ?_⟩
    have h' : bs (o + (l.length + 1)) = nI n := h
    rw [show o + 1 + l.length = o + (l.length + 1) by omega]
    exact h'
/-- channel c holds batches of the sizes l -/
def pt_ch (l : List Nat) (c : Nat) (bc bs ec : Nat → Int32) : Prop := pt_all1 l ∧ pt_sum l ≤ 32 ∧ bc c = nI l.length ∧ ec c = nI (pt_sum l) ∧ pt_lay bs (32 * c) l
theorem pt_ch_len {l : List Nat} {c : Nat} {bc bs ec : Nat → Int32} (h : pt_ch l c bc bs ec) : l.length ≤ 32 := Nat.le_trans (pt_len_sum h.1) h.2.1
theorem pt_ch_cong {l : List Nat} {c : Nat} {bc bs ec bc' bs' ec' : Nat → Int32} (h : pt_ch l c bc bs ec) (h1 : bc' c = bc c) (h2 : ec' c = ec c) (h3 : ∀ j, j < l.length → bs' (32 * c + j) = bs (32 * c + j)) : pt_ch l c bc' bs' ec' :=
  ⟨h.1, h.2.1, h1.trans h.2.2.1, h2.trans h.2.2.2.1, pt_lay_cong h3 h.2.2.2.2⟩
theorem pt_ch_app {l : List Nat} {c n : Nat} {bc bs ec bc' bs' ec' : Nat → Int32} (h : pt_ch l c bc bs ec) (hn : 1 ≤ n) (hs : pt_sum l + n ≤ 32) (h1 : bc' c = nI (l.length + 1)) (h2 : ec' c = nI (pt_sum l + n)) (h3 : ∀ j, j < l.length → bs' (32 * c + j) = bs (32 * c + j)) (h4 : bs' (32 * c + l.length) = nI n) : pt_ch (l ++ [n]) c bc' bs' ec' := by
  refine ⟨?_, ?_, ?_, ?_, pt_lay_app (pt_lay_cong h3 h.2.2.2.2) h4⟩
  · intro a ha
    rcases List.mem_append.mp ha with z | z
    · exact h.1 a z
    · rw [List.mem_singleton.mp z]; exact hn
  · rw [pt_sum_app]; exact hs
  · rw [h1, List.length_append]; rfl
  · rw [h2, pt_sum_app]
theorem pt_ch_tail {a : Nat} {l : List Nat} {c : Nat} {bc bs ec bc' bs' ec' : Nat → Int32} (h : pt_ch (a :: l) c bc bs ec) (h1 : bc' c = nI l.length) (h2 : ec' c = nI (pt_sum l)) (h3 : ∀ j, j < l.length → bs' (32 * c + j) = bs (32 * c + j + 1)) : pt_ch l c bc' bs' ec' := by
  have hs : a + pt_sum l ≤ 32 := h.2.1
  exact ⟨(pt_all1_c h.1).2, by omega, h1, h2, pt_lay_cong (o := 32 * c + 1) (fun j hj => by rw [h3 j hj, show 32 * c + j + 1 = 32 * c + 1 + j by omega]) h.2.2.2.2.2⟩
/-- .. and its entries' marks -/
def pt_mk (l : List Nat) (c : Nat) (st : Nat → Int32) : Prop := ∀ j, j < pt_sum l → st (32 * c + j) = pt_st l j
theorem pt_mk_cong {l : List Nat} {c : Nat} {st st' : Nat → Int32} (h : pt_mk l c st) (h1 : ∀ j, j < pt_sum l → st' (32 * c + j) = st (32 * c + j)) : pt_mk l c st' := fun j hj => (h1 j hj).trans (h j hj)
theorem pt_mk_app {l : List Nat} {c n : Nat} {st st' : Nat → Int32} (ha : pt_all1 l) (h : pt_mk l c st) (h1 : ∀ j, j < pt_sum l → st' (32 * c + j) = st (32 * c + j)) (h2 : ∀ j, j < n → st' (32 * c + pt_sum l + j) = if j = 0 then 1 else 0) : pt_mk (l ++ [n]) c st' := by
  intro j hj
  rw [pt_sum_app] at hj
  by_cases z : j < pt_sum l
  · rw [h1 j z, h j z, pt_st_app1 ha j z]
  · obtain ⟨i, rfl⟩ : ∃ i, j = pt_sum l + i := ⟨j - pt_sum l, by omega⟩
    rw [show 32 * c + (pt_sum l + i) = 32 * c + pt_sum l + i by omega, h2 i (by omega), pt_st_app2 ha i (by omega)]
theorem pt_mk_tail {a : Nat} {l : List Nat} {c : Nat} {st st' : Nat → Int32} (ha : 1 ≤ a) (h : pt_mk (a :: l) c st) (h1 : ∀ j, j < pt_sum l → st' (32 * c + j) = st (32 * c + j + a)) : pt_mk l c st' := by
  intro j hj
  have hs : pt_sum (a :: l) = a + pt_sum l := rfl
  have := h (a + j) (by rw [hs]; omega)
  rw [h1 j hj, show 32 * c + j + a = 32 * c + (a + j) by omega, this, pt_st_out ha]
/-! one batch of n entries more in channel c0 -/
theorem pt_app_ch {Ls : Nat → List Nat} {c0 n : Nat} {bc bs ec : Nat → Int32} (hn : 1 ≤ n) (h0 : pt_ch (Ls c0) c0 bc bs ec) (hr : pt_sum (Ls c0) + n ≤ 32) {c : Nat} (h : pt_ch (Ls c) c bc bs ec) :
    pt_ch (if c = c0 then Ls c0 ++ [n] else Ls c) c (upd bc c0 (bc c0 + 1)) (upd bs (32 * c0 + (bc c0).toNatClampNeg) (nI n)) (upd ec c0 (ec c0 + nI n)) := by
  have hl := pt_len_sum h0.1
  have e1 : (bc c0).toNatClampNeg = (Ls c0).length := by rw [h0.2.2.1, nI_clamp (by omega)]
  rw [e1]
  by_cases e : c = c0
  · subst e
    rw [if_pos rfl]
    exact pt_ch_app h0 hn hr (by rw [pk_us, h0.2.2.1, nI_1]) (by rw [pk_us, h0.2.2.2.1, nI_add]) (fun j hj => pk_un (by omega)) pk_us
  · rw [if_neg e]
    have := pt_ch_len h
    exact pt_ch_cong h (pk_un e) (pk_un e) (fun j hj => pk_un (by omega))
theorem pt_app_mk {Ls : Nat → List Nat} {c0 n b : Nat} {bc bs ec st pend : Nat → Int32} (hn : pt_cnt pend b 64 = n) (h0 : pt_ch (Ls c0) c0 bc bs ec) (hr : pt_sum (Ls c0) + n ≤ 32) {c : Nat} (h : pt_ch (Ls c) c bc bs ec) (hm : pt_mk (Ls c) c st) :
    pt_mk (if c = c0 then Ls c0 ++ [n] else Ls c) c (pt_cs pend b (32 * c0 + (ec c0).toNatClampNeg) st 64) := by
  have e1 : (ec c0).toNatClampNeg = pt_sum (Ls c0) := by rw [h0.2.2.2.1, nI_clamp (by omega)]
  rw [e1]
  by_cases e : c = c0
  · subst e
    rw [if_pos rfl]
    exact pt_mk_app h0.1 hm (fun j hj => pt_cs_out (by omega)) (fun j hj => pt_cs_at (by omega))
  · rw [if_neg e]
    have := h.2.1
    exact pt_mk_cong hm (fun j hj => pt_cs_out (by omega))
/-! what a broadcast writes, channel by channel -/
def pt_bbc (w : Nat) (bc : Nat → Int32) : Nat → Nat → Int32
  | 0 => bc
  | r + 1 => upd (pt_bbc w bc r) (4 * w + r) (pt_bbc w bc r (4 * w + r) + 1)
def pt_bbs (w n : Nat) (bc bs : Nat → Int32) : Nat → Nat → Int32
  | 0 => bs
  | r + 1 => upd (pt_bbs w n bc bs r) (32 * (4 * w + r) + (pt_bbc w bc r (4 * w + r)).toNatClampNeg) (nI n)
def pt_bec (w n : Nat) (ec : Nat → Int32) : Nat → Nat → Int32
  | 0 => ec
  | r + 1 => upd (pt_bec w n ec r) (4 * w + r) (pt_bec w n ec r (4 * w + r) + nI n)
def pt_bep (pend : Nat → Int32) (w n : Nat) (ec ep : Nat → Int32) : Nat → Nat → Int32
  | 0 => ep
  | r + 1 => pt_ep pend (64 * w) (32 * (4 * w + r) + (pt_bec w n ec r (4 * w + r)).toNatClampNeg) (pt_bep pend w n ec ep r) 64
def pt_bed (pend : Nat → Int32) (w n : Nat) (ec ed : Nat → Int32) : Nat → Nat → Int32
  | 0 => ed
  | r + 1 => pt_ed pend (64 * w) (32 * (4 * w + r) + (pt_bec w n ec r (4 * w + r)).toNatClampNeg) (pt_bed pend w n ec ed r) 64
def pt_bcs (pend : Nat → Int32) (w n : Nat) (ec st : Nat → Int32) : Nat → Nat → Int32
  | 0 => st
  | r + 1 => pt_cs pend (64 * w) (32 * (4 * w + r) + (pt_bec w n ec r (4 * w + r)).toNatClampNeg) (pt_bcs pend w n ec st r) 64
theorem pt_bec_hi {w n : Nat} {ec : Nat → Int32} {c : Nat} : ∀ {R : Nat}, (c < 4 * w ∨ 4 * w + R ≤ c) → pt_bec w n ec R c = ec c := by
  intro R
  induction R with
  | zero => intro _; rfl
  | succ R ih =>
    intro h
    show upd (pt_bec w n ec R) (4 * w + R) _ c = _
    rw [pk_un (by omega)]
    exact ih (by omega)
theorem pt_bbc_hi {w : Nat} {bc : Nat → Int32} {c : Nat} : ∀ {R : Nat}, (c < 4 * w ∨ 4 * w + R ≤ c) → pt_bbc w bc R c = bc c := by
  intro R
  induction R with
  | zero => intro _; rfl
  | succ R ih =>
    intro h
    show upd (pt_bbc w bc R) (4 * w + R) _ c = _
    rw [pk_un (by omega)]
    exact ih (by omega)
/-- the sizes' lists after the channels (w, 0) .. (w, R - 1) have got their batch -/
def pt_bL (w n : Nat) (Ls : Nat → List Nat) (R c : Nat) : List Nat := if 4 * w ≤ c ∧ c < 4 * w + R then Ls c ++ [n] else Ls c
theorem pt_bL_s {w n R c : Nat} {Ls : Nat → List Nat} : pt_bL w n Ls (R + 1) c = if c = 4 * w + R then pt_bL w n Ls R (4 * w + R) ++ [n] else pt_bL w n Ls R c := by
  unfold pt_bL
  by_cases e : c = 4 * w + R
  · rw [if_pos e, if_pos (by omega), if_neg (by omega), e]
  · rw [if_neg e]
    by_cases h : 4 * w ≤ c ∧ c < 4 * w + R
    · rw [if_pos h, if_pos (by omega)]
    · rw [if_neg h, if_neg (by omega)]
theorem pt_bL_at {w n R : Nat} {Ls : Nat → List Nat} : pt_bL w n Ls R (4 * w + R) = Ls (4 * w + R) := if_neg (by omega)
theorem pt_bch {w n : Nat} {Ls : Nat → List Nat} {bc bs ec : Nat → Int32} (hw : w < 4) (hn : 1 ≤ n) (h : ∀ c, c < 16 → pt_ch (Ls c) c bc bs ec) :
    ∀ {R : Nat}, R ≤ 4 → (∀ r, r < R → pt_sum (Ls (4 * w + r)) + n ≤ 32) → ∀ c, c < 16 → pt_ch (pt_bL w n Ls R c) c (pt_bbc w bc R) (pt_bbs w n bc bs R) (pt_bec w n ec R) := by
  intro R
  induction R with
  | zero =>
    intro _ _ c hc
    show pt_ch (if 4 * w ≤ c ∧ c < 4 * w + 0 then Ls c ++ [n] else Ls c) c bc bs ec
    rw [if_neg (by omega)]
    exact h c hc
  | succ R ih =>
    intro hR hr c hc
    have k := ih (by omega) (fun r hr' => hr r (by omega))
    rw [pt_bL_s]
    exact pt_app_ch (Ls := pt_bL w n Ls R) (c0 := 4 * w + R) hn (k _ (by omega)) (by rw [pt_bL_at]; exact hr R (by omega)) (k c hc)
theorem pt_bmk {w n : Nat} {Ls : Nat → List Nat} {bc bs ec st pend : Nat → Int32} (hw : w < 4) (hn : 1 ≤ n) (hp : pt_cnt pend (64 * w) 64 = n) (h : ∀ c, c < 16 → pt_ch (Ls c) c bc bs ec) (hm : ∀ c, c < 16 → pt_mk (Ls c) c st) :
    ∀ {R : Nat}, R ≤ 4 → (∀ r, r < R → pt_sum (Ls (4 * w + r)) + n ≤ 32) → ∀ c, c < 16 → pt_mk (pt_bL w n Ls R c) c (pt_bcs pend w n ec st R) := by
  intro R
  induction R with
  | zero =>
    intro _ _ c hc
    show pt_mk (if 4 * w ≤ c ∧ c < 4 * w + 0 then Ls c ++ [n] else Ls c) c st
    rw [if_neg (by omega)]
    exact hm c hc
  | succ R ih =>
    intro hR hr c hc
    have k := ih (by omega) (fun r hr' => hr r (by omega))
    have kc := pt_bch hw hn h (R := R) (by omega) (fun r hr' => hr r (by omega))
    rw [pt_bL_s]
    exact pt_app_mk (Ls := pt_bL w n Ls R) (c0 := 4 * w + R) hp (kc _ (by omega)) (by rw [pt_bL_at]; exact hr R (by omega)) (kc c hc) (k c hc)
theorem pt_bep_in {pend : Nat → Int32} {w n : Nat} {ec ep : Nat → Int32} (he : ∀ i, ∃ p, p < 64 ∧ ep i = nI p) : ∀ R i, ∃ p, p < 64 ∧ pt_bep pend w n ec ep R i = nI p := by
  intro R
  induction R with
  | zero => exact he
  | succ R ih => exact pt_ep_in ih (Nat.le_refl 64)
