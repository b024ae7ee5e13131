/-! sums over the workers -/
def pq_is (g : Nat → Int32) : Nat → Int32
  | 0 => 0
  | n + 1 => pq_is g n + g n
theorem pq_is_cong {g g' : Nat → Int32} : ∀ {n : Nat}, (∀ i, i < n → g' i = g i) → pq_is g' n = pq_is g n := by
  intro n
  induction n with
  | zero => intro _; rfl
  | succ n ih =>
    intro h
    show pq_is g' n + g' n = pq_is g n + g n
    rw [ih (fun i hi => h i (by omega)), h n (by omega)]
theorem pq_is_one {g g' : Nat → Int32} {s : Nat} {d : Int32} (h1 : g' s = g s + d) : ∀ {n : Nat}, s < n → (∀ i, i < n → i ≠ s → g' i = g i) → pq_is g' n = pq_is g n + d := by
  intro n
  induction n with
  | zero => intro h; omega
  | succ n ih =>
    intro hs h
    show pq_is g' n + g' n = pq_is g n + g n + d
    by_cases e : s = n
    · subst e
      rw [pq_is_cong (fun i hi => h i (by omega) (by omega)), h1, Int32.add_assoc]
    · rw [ih (by omega) (fun i hi => h i (by omega)), h n (by omega) (by omega), Int32.add_assoc, Int32.add_assoc, Int32.add_comm d]
def pq_ii (g : Nat → Int32) : Nat → Int
  | 0 => 0
  | n + 1 => pq_ii g n + (g n).toInt
theorem pq_is_int {g : Nat → Int32} : ∀ {n : Nat}, n ≤ 4 → (∀ i, i < n → -1000 ≤ (g i).toInt ∧ (g i).toInt ≤ 1000) → (pq_is g n).toInt = pq_ii g n ∧ -(1000 * (n : Int)) ≤ pq_ii g n ∧ pq_ii g n ≤ 1000 * (n : Int) := by
  intro n
  induction n with
  | zero =>
    intro _ _
    exact ⟨rfl, by show -(1000 * (0 : Int)) ≤ 0; omega, by show (0 : Int) ≤ 1000 * 0; omega⟩
  | succ n ih =>
    intro hn h
    obtain ⟨a, b, c⟩ := ih (by omega) (fun i hi => h i (by omega))
    have ⟨h1, h2⟩ := h n (by omega)
    have e : pq_ii g (n + 1) = pq_ii g n + (g n).toInt := rfl
    refine ⟨?_, by rw [e]; omega, by rw [e]; omega⟩
    show (pq_is g n + g n).toInt = _
    rw [Int32.toInt_add, a, e]
    exact Int.bmod_eq_of_le (by omega) (by omega)
theorem pq_ii_le {g : Nat → Int32} : ∀ {n : Nat}, (∀ i, i < n → (g i).toInt ≤ 0) → pq_ii g n ≤ 0 ∧ ∀ i, i < n → pq_ii g n ≤ (g i).toInt := by
  intro n
  induction n with
  | zero => intro _; exact ⟨Int.le_refl 0, fun i hi => absurd hi (by omega)⟩
  | succ n ih =>
    intro h
    obtain ⟨a, b⟩ := ih (fun i hi => h i (by omega))
    have h1 := h n (by omega)
    have e : pq_ii g (n + 1) = pq_ii g n + (g n).toInt := rfl
    refine ⟨by rw [e]; omega, fun i hi => ?_⟩
    by_cases z : i = n
    · rw [z, e]; omega
    · have := b i (by omega)
      rw [e]; omega
theorem pq_ii_ge {g : Nat → Int32} : ∀ {n : Nat}, (∀ i, i < n → 0 ≤ (g i).toInt) → 0 ≤ pq_ii g n ∧ ∀ i, i < n → (g i).toInt ≤ pq_ii g n := by
  intro n
  induction n with
  | zero => intro _; exact ⟨Int.le_refl 0, fun i hi => absurd hi (by omega)⟩
  | succ n ih =>
    intro h
    obtain ⟨a, b⟩ := ih (fun i hi => h i (by omega))
    have h1 := h n (by omega)
    have e : pq_ii g (n + 1) = pq_ii g n + (g n).toInt := rfl
    refine ⟨by rw [e]; omega, fun i hi => ?_⟩
    by_cases z : i = n
    · rw [z, e]; omega
    · have := b i (by omega)
      rw [e]; omega
/-- the view's count, by the sum, as an integer -/
theorem pq_view_int {W : Nat} {v m : Int32} {C D : Nat → Int32} (hW : W ≤ 4) (hm : 0 ≤ m.toInt ∧ m.toInt ≤ 1000) (hC : ∀ s, s < W → 0 ≤ (C s).toInt ∧ (C s).toInt ≤ 1000) (hD : ∀ s, s < W → -1000 ≤ (D s).toInt ∧ (D s).toInt ≤ 1000) (hS : v + pq_is D W = m + pq_is C W) : v.toInt = m.toInt + pq_ii C W - pq_ii D W := by
  obtain ⟨a1, a2, a3⟩ := pq_is_int hW (g := C) (fun s hs => ⟨by have := (hC s hs).1; omega, (hC s hs).2⟩)
  obtain ⟨b1, b2, b3⟩ := pq_is_int hW (g := D) hD
  have e : v = m + pq_is C W - pq_is D W := by rw [← hS, Int32.add_sub_cancel]
  have e1 : (m + pq_is C W).toInt = m.toInt + pq_ii C W := by
    rw [Int32.toInt_add, a1]
    exact Int.bmod_eq_of_le (by omega) (by omega)
  rw [e, Int32.toInt_sub, e1, b1]
  exact Int.bmod_eq_of_le (by omega) (by omega)
theorem pq_safe {W j : Nat} {m v : Nat → Int32} {C D : Nat → Nat → Int32} (hW : W ≤ 4) (hj : j < 1000)
    (hm : ∀ p, p < 64 → 0 ≤ (m p).toInt ∧ (m p).toInt ≤ 1000) (hC : ∀ s, s < W → ∀ p, p < 64 → 0 ≤ (C s p).toInt ∧ (C s p).toInt ≤ 1000)
    (hU : ∀ s, s < W → pq_U j (D s) (C s)) (hS : ∀ p, p < 64 → v p + pq_is (fun s => D s p) W = m p + pq_is (fun s => C s p) W)
    {q : Nat} (hq : q < 64) (ho : 0 < (m q).toInt ∨ ∃ s, s < W ∧ 0 < (C s q).toInt) : ∃ p, p < 64 ∧ pq_le p q ∧ 0 < (v p).toInt := by
  apply Classical.byContradiction
  intro hno
  have hv : ∀ p, p < 64 → pq_le p q → (v p).toInt ≤ 0 := by
    intro p hp hl
    rcases Int.lt_or_le 0 (v p).toInt with z | z
    · exact absurd ⟨p, hp, hl, z⟩ hno
    · exact z
  have claim : ∀ n p, p < 64 → pq_rk p = n → pq_le p q → (0 < (m p).toInt ∨ ∃ s, s < W ∧ (0 < (C s p).toInt ∨ (D s p).toInt ≠ 0)) → False := by
    intro n
    induction n using Nat.strongRecOn with
    | ind n ih =>
      intro p hp hr hl hs
      have hvp := hv p hp hl
      have hDb : ∀ s, s < W → -1000 ≤ (D s p).toInt ∧ (D s p).toInt ≤ 1000 := fun s h => by
        have := ((hU s h) p hp).1
        omega
      have e := pq_view_int (C := fun s => C s p) (D := fun s => D s p) hW (hm p hp) (fun s h => hC s h p hp) hDb (hS p hp)
      obtain ⟨c1, c2⟩ := pq_ii_ge (g := fun s => C s p) (n := W) (fun s h => (hC s h p hp).1)
      have hex : ∃ s, s < W ∧ 0 < (D s p).toInt := by
        apply Classical.byContradiction
        intro hnd
        have hle : ∀ s, s < W → (D s p).toInt ≤ 0 := by
          intro s h
          rcases Int.lt_or_le 0 (D s p).toInt with z | z
          · exact absurd ⟨s, h, z⟩ hnd
          · exact z
        obtain ⟨d1, d2⟩ := pq_ii_le (g := fun s => D s p) (n := W) hle
        have hm0 := (hm p hp).1
        rcases hs with g | ⟨s, h, g | g⟩
        · omega
        · have := c2 s h
          omega
        · have := d2 s h
          have := hle s h
          omega
      obtain ⟨s, h, g⟩ := hex
      obtain ⟨p', a1, a2, a3⟩ := ((hU s h) p hp).2 g
      refine ih (pq_rk p') (by rw [← hr]; exact pq_lt_rk a1 hp a2.1 a2.2) p' a1 rfl (pq_trans a1 hp hq a2.1 hl) (Or.inr ⟨s, h, ?_⟩)
      rcases a3 with z | z
      · exact Or.inr (by omega)
      · exact Or.inl z
  refine claim _ q hq rfl (pq_refl q hq) ?_
  rcases ho with z | ⟨s, h, z⟩
  · exact Or.inl z
  · exact Or.inr ⟨s, h, Or.inl z⟩
/-! the arrays of a channel against its batches -/
def pq_acc (ep ed : Nat → Int32) (o p : Nat) : Nat → Int32
  | 0 => 0
  | n + 1 => pq_acc ep ed o p n + (if (ep (o + n)).toNatClampNeg = p then ed (o + n) else 0)
theorem pq_acc_s (ep ed : Nat → Int32) (o p n : Nat) : pq_acc ep ed o p (n + 1) = pq_acc ep ed o p n + (if (ep (o + n)).toNatClampNeg = p then ed (o + n) else 0) := rfl
theorem pq_acc_cong {ep ed ep' ed' : Nat → Int32} {o o' p : Nat} : ∀ {n : Nat}, (∀ j, j < n → ep' (o' + j) = ep (o + j) ∧ ed' (o' + j) = ed (o + j)) → pq_acc ep' ed' o' p n = pq_acc ep ed o p n := by
  intro n
  induction n with
  | zero => intro _; rfl
  | succ n ih =>
    intro h
    rw [pq_acc_s, pq_acc_s, ih (fun j hj => h j (by omega)), (h n (by omega)).1, (h n (by omega)).2]
def pq_bat (ep ed : Nat → Int32) : Nat → List Nat → List (Nat → Int32) → Prop
  | _, [], [] => True
  | o, a :: l, B :: Bs => (∀ p, p < 64 → B p = pq_acc ep ed o p a) ∧ pq_bat ep ed (o + a) l Bs
  | _, [], _ :: _ => False
  | _, _ :: _, [] => False
theorem pq_bat_cong {ep ed ep' ed' : Nat → Int32} : ∀ {l : List Nat} {Bs : List (Nat → Int32)} {o o' : Nat}, (∀ j, j < pt_sum l → ep' (o' + j) = ep (o + j) ∧ ed' (o' + j) = ed (o + j)) → pq_bat ep ed o l Bs → pq_bat ep' ed' o' l Bs
  | [], [], _, _, _, _ => trivial
  | a :: l, B :: Bs, o, o', h, hb => by
    have hs : pt_sum (a :: l) = a + pt_sum l := rfl
    rw [hs] at h
    refine ⟨fun p hp => (hb.1 p hp).trans (pq_acc_cong (fun j hj => h j (by omega))).symm, pq_bat_cong (fun j hj => ?_) hb.2⟩
    have := h (a + j) (by omega)
    rw [show o' + a + j = o' + (a + j) by omega, show o + a + j = o + (a + j) by omega]
    exact this
  | [], _ :: _, _, _, _, hb => hb.elim
  | _ :: _, [], _, _, _, hb => hb.elim
theorem pq_bat_app {ep ed : Nat → Int32} {n : Nat} {g : Nat → Int32} : ∀ {l : List Nat} {Bs : List (Nat → Int32)} {o : Nat}, pq_bat ep ed o l Bs → (∀ p, p < 64 → g p = pq_acc ep ed (o + pt_sum l) p n) → pq_bat ep ed o (l ++ [n]) (Bs ++ [g])
  | [], [], _, _, h => ⟨h, trivial⟩
  | a :: l, B :: Bs, o, hb, h => by
    refine ⟨hb.1, pq_bat_app hb.2 (fun p hp => ?_)⟩
    have := h p hp
    rw [show o + pt_sum (a :: l) = o + a + pt_sum l by show o + (a + pt_sum l) = _; omega] at this
    exact this
  | [], _ :: _, _, hb, _ => hb.elim
  | _ :: _, [], _, hb, _ => hb.elim
theorem pq_ep_out {pend : Nat → Int32} {b pos : Nat} {f : Nat → Int32} {i : Nat} : ∀ {n : Nat}, (i < pos ∨ pos + pt_cnt pend b n ≤ i) → pt_ep pend b pos f n i = f i := by
  intro n
  induction n with
  | zero => intro _; rfl
  | succ n ih =>
    intro h
    rw [pt_cnt_s] at h
    by_cases z : pend (b + n) = 0
    · rw [pt_ep_z z]; exact ih (by omega)
    · rw [pt_nz_1 z] at h
      rw [pt_ep_p z, pk_un (by omega)]
      exact ih (by omega)
theorem pq_ed_out {pend : Nat → Int32} {b pos : Nat} {f : Nat → Int32} {i : Nat} : ∀ {n : Nat}, (i < pos ∨ pos + pt_cnt pend b n ≤ i) → pt_ed pend b pos f n i = f i := by
  intro n
  induction n with
  | zero => intro _; rfl
  | succ n ih =>
    intro h
    rw [pt_cnt_s] at h
    by_cases z : pend (b + n) = 0
    · rw [pt_ed_z z]; exact ih (by omega)
    · rw [pt_nz_1 z] at h
      rw [pt_ed_p z, pk_un (by omega)]
      exact ih (by omega)
theorem pq_acc_app {pend : Nat → Int32} {b pos p : Nat} {f g : Nat → Int32} : ∀ {n : Nat}, n ≤ 64 → pq_acc (pt_ep pend b pos f n) (pt_ed pend b pos g n) pos p (pt_cnt pend b n) = if p < n then pend (b + p) else 0 := by
  intro n
  induction n with
  | zero =>
    intro _
    show (0 : Int32) = _
    rw [if_neg (by omega)]
  | succ n ih =>
    intro hn
    have h := ih (by omega)
    by_cases z : pend (b + n) = 0
    · rw [pt_ep_z z, pt_ed_z z, pt_cnt_s, pt_nz_0 z, Nat.add_zero, h]
      by_cases e : p = n
      · rw [e, if_neg (by omega), if_pos (by omega), z]
      · by_cases e2 : p < n
        · rw [if_pos e2, if_pos (by omega)]
        · rw [if_neg e2, if_neg (by omega)]
    · rw [pt_ep_p z, pt_ed_p z, pt_cnt_s, pt_nz_1 z, pq_acc_s, pk_us, pk_us, nI_clamp (by omega),
        pq_acc_cong (ep := pt_ep pend b pos f n) (ed := pt_ed pend b pos g n) (o := pos) (fun j hj => ⟨pk_un (by omega), pk_un (by omega)⟩), h]
      by_cases e : p = n
      · rw [e, if_neg (by omega), if_pos rfl, if_pos (by omega), Int32.zero_add]
      · rw [if_neg (show ¬ n = p by omega), Int32.add_zero]
        by_cases e2 : p < n
        · rw [if_pos e2, if_pos (by omega)]
        · rw [if_neg e2, if_neg (by omega)]
theorem pq_vw_at {ep ed : Nat → Int32} {first b p : Nat} {f : Nat → Int32} : ∀ {n : Nat}, pt_vw ep ed first b f n (b + p) = f (b + p) + pq_acc ep ed first p n := by
  intro n
  induction n with
  | zero => exact (Int32.add_zero _).symm
  | succ n ih =>
    show upd (pt_vw ep ed first b f n) (b + (ep (first + n)).toNatClampNeg) (pt_vw ep ed first b f n (b + (ep (first + n)).toNatClampNeg) + ed (first + n)) (b + p) = _
    rw [pq_acc_s]
    by_cases e : (ep (first + n)).toNatClampNeg = p
    · rw [e, pk_us, if_pos rfl, ih, Int32.add_assoc]
    · rw [pk_un (by omega), if_neg e, Int32.add_zero, ih]
theorem pq_vw_out {ep ed : Nat → Int32} {first b i : Nat} {f : Nat → Int32} (he : ∀ i, ∃ p, p < 64 ∧ ep i = nI p) (hi : i < b ∨ b + 64 ≤ i) : ∀ {n : Nat}, pt_vw ep ed first b f n i = f i := by
  intro n
  induction n with
  | zero => rfl
  | succ n ih =>
    show upd (pt_vw ep ed first b f n) (b + (ep (first + n)).toNatClampNeg) (pt_vw ep ed first b f n (b + (ep (first + n)).toNatClampNeg) + ed (first + n)) i = _
    obtain ⟨p, hp, e⟩ := he (first + n)
    rw [e, nI_clamp (by omega), pk_un (by omega), ih]
