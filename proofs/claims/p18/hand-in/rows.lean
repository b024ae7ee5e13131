section
/-! counts of cells that are not 0 -/
def pt_nz (x : Int32) : Nat := if x = 0 then 0 else 1
theorem pt_nz_0 {x : Int32} (h : x = 0) : pt_nz x = 0 := if_pos h
theorem pt_nz_1 {x : Int32} (h : ¬ x = 0) : pt_nz x = 1 := if_neg h
theorem pt_nz_le (x : Int32) : pt_nz x ≤ 1 := by
  by_cases h : x = 0
  · rw [pt_nz_0 h]; omega
  · rw [pt_nz_1 h]; omega
/-- how many of the n cells from b on are not 0 -/
def pt_cnt (f : Nat → Int32) (b : Nat) : Nat → Nat
  | 0 => 0
  | n + 1 => pt_cnt f b n + pt_nz (f (b + n))
theorem pt_cnt_s (f : Nat → Int32) (b n : Nat) : pt_cnt f b (n + 1) = pt_cnt f b n + pt_nz (f (b + n)) := rfl
theorem pt_cnt_le (f : Nat → Int32) (b : Nat) : ∀ n, pt_cnt f b n ≤ n
  | 0 => Nat.le_refl 0
  | n + 1 => by
    have h1 := pt_cnt_le f b n
    have h2 := pt_nz_le (f (b + n))
    rw [pt_cnt_s]
    omega
theorem pt_cnt_mono (f : Nat → Int32) (b : Nat) {m : Nat} : ∀ {n : Nat}, m ≤ n → pt_cnt f b m ≤ pt_cnt f b n := by
  intro n
  induction n with
  | zero => intro h; rw [show m = 0 by omega]; exact Nat.le_refl _
  | succ n ih =>
    intro h
    by_cases e : m = n + 1
    · rw [e]; exact Nat.le_refl _
    · have := ih (by omega)
      rw [pt_cnt_s]
      omega
theorem pt_cnt_cong {f g : Nat → Int32} {b : Nat} : ∀ {n : Nat}, (∀ j, j < n → f (b + j) = g (b + j)) → pt_cnt f b n = pt_cnt g b n := by
  intro n
  induction n with
  | zero => intro _; rfl
  | succ n ih =>
    intro h
    rw [pt_cnt_s, pt_cnt_s, ih (fun j hj => h j (by omega)), h n (by omega)]
theorem pt_cnt_upd {f : Nat → Int32} {b q : Nat} {x : Int32} : ∀ {n : Nat}, q < n → pt_cnt (upd f (b + q) x) b n + pt_nz (f (b + q)) = pt_cnt f b n + pt_nz x := by
  intro n
  induction n with
  | zero => intro h; omega
  | succ n ih =>
    intro h
    rw [pt_cnt_s, pt_cnt_s]
    by_cases e : q = n
    · subst e
      rw [pk_us, pt_cnt_cong (f := upd f (b + q) x) (g := f) (fun j hj => pk_un (by omega))]
      omega
    · have := ih (by omega)
      rw [pk_un (show b + n ≠ b + q by omega)]
      omega
theorem pt_cnt_0 {f : Nat → Int32} {b : Nat} : ∀ {n : Nat}, pt_cnt f b n = 0 → ∀ j, j < n → f (b + j) = 0 := by
  intro n
  induction n with
  | zero => intro _ j hj; omega
  | succ n ih =>
    intro h j hj
    rw [pt_cnt_s] at h
    by_cases e : j = n
    · rw [e]
      by_cases z : f (b + n) = 0
      · exact z
      · rw [pt_nz_1 z] at h; omega
    · exact ih (by omega) j (by omega)
theorem pt_cnt_z {f : Nat → Int32} {b : Nat} : ∀ {n : Nat}, (∀ j, j < n → f (b + j) = 0) → pt_cnt f b n = 0 := by
  intro n
  induction n with
  | zero => intro _; rfl
  | succ n ih =>
    intro h
    rw [pt_cnt_s, ih (fun j hj => h j (by omega)), pt_nz_0 (h n (by omega))]
theorem pt_cnt_ge {f : Nat → Int32} {b n j : Nat} (hj : j < n) : pt_nz (f (b + j)) ≤ pt_cnt f b n := by
  have h := pt_cnt_mono f b (show j + 1 ≤ n by omega)
  rw [pt_cnt_s] at h
  omega
theorem pt_cnt_add (f : Nat → Int32) (b m : Nat) : ∀ n, pt_cnt f b (m + n) = pt_cnt f b m + pt_cnt f (b + m) n := by
  intro n
  induction n with
  | zero => rfl
  | succ n ih =>
    rw [show m + (n + 1) = (m + n) + 1 by omega, pt_cnt_s, pt_cnt_s, ih, show b + (m + n) = b + m + n by omega]
    omega
theorem pt_cnt_one {f : Nat → Int32} {b : Nat} (h0 : f b = 1) : ∀ {n : Nat}, (∀ j, 0 < j → j < n + 1 → f (b + j) = 0) → pt_cnt f b (n + 1) = 1 := by
  intro n
  induction n with
  | zero =>
    intro _
    show 0 + pt_nz (f (b + 0)) = 1
    rw [show b + 0 = b by omega, h0]
    rfl
  | succ n ih =>
    intro h
    rw [pt_cnt_s, ih (fun j h1 h2 => h j h1 (by omega)), pt_nz_0 (h (n + 1) (by omega) (by omega))]
/-! a channel by its batches' sizes -/
def pt_sum : List Nat → Nat
  | [] => 0
  | a :: l => a + pt_sum l
/-- whether entry j is the first of its batch -/
def pt_st : List Nat → Nat → Int32
  | [], _ => 0
  | a :: l, j => if j = 0 then 1 else if j < a then 0 else pt_st l (j - a)
def pt_all1 (l : List Nat) : Prop := ∀ a, a ∈ l → 1 ≤ a
theorem pt_all1_c {a : Nat} {l : List Nat} (h : pt_all1 (a :: l)) : 1 ≤ a ∧ pt_all1 l :=
  ⟨h a (List.mem_cons_self), fun b hb => h b (List.mem_cons_of_mem a hb)⟩
theorem pt_sum_app (n : Nat) : ∀ l : List Nat, pt_sum (l ++ [n]) = pt_sum l + n
  | [] => by show n + 0 = 0 + n; omega
  | a :: l => by
    show a + pt_sum (l ++ [n]) = a + pt_sum l + n
    rw [pt_sum_app n l]; omega
theorem pt_len_sum : ∀ {l : List Nat}, pt_all1 l → l.length ≤ pt_sum l
  | [], _ => Nat.le_refl 0
  | a :: l, h => by
    have ⟨h1, h2⟩ := pt_all1_c h
    have := pt_len_sum h2
    show l.length + 1 ≤ a + pt_sum l
    omega
theorem pt_st_0 (a : Nat) (l : List Nat) : pt_st (a :: l) 0 = 1 := if_pos rfl
theorem pt_st_in {a j : Nat} {l : List Nat} (h0 : 0 < j) (h : j < a) : pt_st (a :: l) j = 0 := by
  show (if j = 0 then 1 else if j < a then 0 else pt_st l (j - a)) = 0
  rw [if_neg (by omega), if_pos h]
theorem pt_st_out {a j : Nat} {l : List Nat} (h1 : 1 ≤ a) : pt_st (a :: l) (a + j) = pt_st l j := by
  show (if a + j = 0 then 1 else if a + j < a then 0 else pt_st l (a + j - a)) = _
  rw [if_neg (by omega), if_neg (by omega), show a + j - a = j by omega]
theorem pt_st_app1 {n : Nat} : ∀ {l : List Nat}, pt_all1 l → ∀ j, j < pt_sum l → pt_st (l ++ [n]) j = pt_st l j
  | [], _, j, h => absurd h (Nat.not_lt_zero j)
  | a :: l, h, j, hj => by
    have ⟨h1, h2⟩ := pt_all1_c h
    show pt_st (a :: (l ++ [n])) j = _
    by_cases z : j = 0
    · rw [z, pt_st_0, pt_st_0]
    · by_cases y : j < a
      · rw [pt_st_in (by omega) y, pt_st_in (by omega) y]
      · obtain ⟨i, rfl⟩ : ∃ i, j = a + i := ⟨j - a, by omega⟩
        rw [pt_st_out h1, pt_st_out h1]
        have hj' : a + i < a + pt_sum l := hj
        exact pt_st_app1 h2 i (by omega)
theorem pt_st_app2 {n : Nat} : ∀ {l : List Nat}, pt_all1 l → ∀ j, j < n → pt_st (l ++ [n]) (pt_sum l + j) = if j = 0 then 1 else 0
  | [], _, j, h => by
    show (if 0 + j = 0 then 1 else if 0 + j < n then 0 else pt_st [] (0 + j - n)) = _
    rw [show 0 + j = j by omega, if_pos h]
  | a :: l, h, j, hj => by
    have ⟨h1, h2⟩ := pt_all1_c h
    show pt_st (a :: (l ++ [n])) (a + pt_sum l + j) = _
    rw [show a + pt_sum l + j = a + (pt_sum l + j) by omega, pt_st_out h1]
    exact pt_st_app2 h2 j hj
theorem pt_st_cnt {f : Nat → Int32} : ∀ {l : List Nat} {b : Nat}, pt_all1 l → (∀ j, j < pt_sum l → f (b + j) = pt_st l j) → pt_cnt f b (pt_sum l) = l.length
  | [], _, _, _ => rfl
  | a :: l, b, h, hf => by
    have ⟨h1, h2⟩ := pt_all1_c h
    obtain ⟨a', rfl⟩ : ∃ a', a = a' + 1 := ⟨a - 1, by omega⟩
    have hs : pt_sum ((a' + 1) :: l) = (a' + 1) + pt_sum l := rfl
    rw [hs] at hf
    rw [hs, pt_cnt_add, pt_st_cnt (l := l) (b := b + (a' + 1)) h2 (fun j hj => by
      rw [show b + (a' + 1) + j = b + ((a' + 1) + j) by omega, hf _ (by omega), pt_st_out h1]),
      pt_cnt_one (by have := hf 0 (by omega); rw [pt_st_0] at this; exact this) (fun j h3 h4 => by rw [hf j (by omega), pt_st_in h3 h4])]
    show 1 + l.length = l.length + 1
    omega
/-! what the loops write -/
/-- the entries' points, written from pos on -/
def pt_ep (pend : Nat → Int32) (b pos : Nat) (f : Nat → Int32) : Nat → Nat → Int32
  | 0 => f
  | n + 1 => if pend (b + n) = 0 then pt_ep pend b pos f n else upd (pt_ep pend b pos f n) (pos + pt_cnt pend b n) (nI n)
/-- the entries' deltas -/
def pt_ed (pend : Nat → Int32) (b pos : Nat) (f : Nat → Int32) : Nat → Nat → Int32
  | 0 => f
  | n + 1 => if pend (b + n) = 0 then pt_ed pend b pos f n else upd (pt_ed pend b pos f n) (pos + pt_cnt pend b n) (pend (b + n))
/-- the entries' marks: the first of a batch -/
def pt_cs (pend : Nat → Int32) (b pos : Nat) (f : Nat → Int32) : Nat → Nat → Int32
  | 0 => f
  | n + 1 => if pend (b + n) = 0 then pt_cs pend b pos f n else upd (pt_cs pend b pos f n) (pos + pt_cnt pend b n) (if pt_cnt pend b n = 0 then 1 else 0)
theorem pt_ep_z {pend : Nat → Int32} {b n pos : Nat} {f : Nat → Int32} (h : pend (b + n) = 0) : pt_ep pend b pos f (n + 1) = pt_ep pend b pos f n := if_pos h
theorem pt_ep_p {pend : Nat → Int32} {b n pos : Nat} {f : Nat → Int32} (h : ¬ pend (b + n) = 0) : pt_ep pend b pos f (n + 1) = upd (pt_ep pend b pos f n) (pos + pt_cnt pend b n) (nI n) := if_neg h
theorem pt_ed_z {pend : Nat → Int32} {b n pos : Nat} {f : Nat → Int32} (h : pend (b + n) = 0) : pt_ed pend b pos f (n + 1) = pt_ed pend b pos f n := if_pos h
theorem pt_ed_p {pend : Nat → Int32} {b n pos : Nat} {f : Nat → Int32} (h : ¬ pend (b + n) = 0) : pt_ed pend b pos f (n + 1) = upd (pt_ed pend b pos f n) (pos + pt_cnt pend b n) (pend (b + n)) := if_neg h
theorem pt_cs_z {pend : Nat → Int32} {b n pos : Nat} {f : Nat → Int32} (h : pend (b + n) = 0) : pt_cs pend b pos f (n + 1) = pt_cs pend b pos f n := if_pos h
theorem pt_cs_p {pend : Nat → Int32} {b n pos : Nat} {f : Nat → Int32} (h : ¬ pend (b + n) = 0) : pt_cs pend b pos f (n + 1) = upd (pt_cs pend b pos f n) (pos + pt_cnt pend b n) (if pt_cnt pend b n = 0 then 1 else 0) := if_neg h
theorem pt_ep_in {pend : Nat → Int32} {b pos : Nat} {f : Nat → Int32} (hf : ∀ i, ∃ p, p < 64 ∧ f i = nI p) : ∀ {n : Nat}, n ≤ 64 → ∀ i, ∃ p, p < 64 ∧ pt_ep pend b pos f n i = nI p := by
  intro n
  induction n with
  | zero => intro _ i; exact hf i
  | succ n ih =>
    intro hn i
    by_cases z : pend (b + n) = 0
    · rw [pt_ep_z z]; exact ih (by omega) i
    · rw [pt_ep_p z]
      by_cases e : i = pos + pt_cnt pend b n
      · rw [e, pk_us]; exact ⟨n, by omega, rfl⟩
      · rw [pk_un e]; exact ih (by omega) i
theorem pt_cs_at {pend : Nat → Int32} {b pos : Nat} {f : Nat → Int32} : ∀ {n j : Nat}, j < pt_cnt pend b n → pt_cs pend b pos f n (pos + j) = if j = 0 then 1 else 0 := by
  intro n
  induction n with
  | zero => intro j h; exact absurd h (Nat.not_lt_zero j)
  | succ n ih =>
    intro j h
    rw [pt_cnt_s] at h
    by_cases z : pend (b + n) = 0
    · rw [pt_nz_0 z] at h
      rw [pt_cs_z z]; exact ih (by omega)
    · rw [pt_nz_1 z] at h
      rw [pt_cs_p z]
      by_cases e : j = pt_cnt pend b n
      · rw [e, pk_us]
      · rw [pk_un (by omega)]; exact ih (by omega)
theorem pt_cs_out {pend : Nat → Int32} {b pos : Nat} {f : Nat → Int32} {i : Nat} : ∀ {n : Nat}, (i < pos ∨ pos + pt_cnt pend b n ≤ i) → pt_cs pend b pos f n i = f i := by
  intro n
  induction n with
  | zero => intro _; rfl
  | succ n ih =>
    intro h
    rw [pt_cnt_s] at h
    by_cases z : pend (b + n) = 0
    · rw [pt_cs_z z]; exact ih (by omega)
    · rw [pt_nz_1 z] at h
      rw [pt_cs_p z, pk_un (by omega)]
      exact ih (by omega)
/-- cells moved down by m, n of them from b on -/
def pt_sh (m b : Nat) (f : Nat → Int32) : Nat → Nat → Int32
  | 0 => f
  | n + 1 => upd (pt_sh m b f n) (b + n) (pt_sh m b f n (b + n + m))
theorem pt_sh_ge {m b : Nat} {f : Nat → Int32} {i : Nat} : ∀ {n : Nat}, b + n ≤ i → pt_sh m b f n i = f i := by
  intro n
  induction n with
  | zero => intro _; rfl
  | succ n ih =>
    intro h
    show upd (pt_sh m b f n) (b + n) (pt_sh m b f n (b + n + m)) i = f i
    rw [pk_un (by omega)]
    exact ih (by omega)
theorem pt_sh_lt {m b : Nat} {f : Nat → Int32} {i : Nat} : ∀ {n : Nat}, i < b → pt_sh m b f n i = f i := by
  intro n
  induction n with
  | zero => intro _; rfl
  | succ n ih =>
    intro h
    show upd (pt_sh m b f n) (b + n) (pt_sh m b f n (b + n + m)) i = f i
    rw [pk_un (by omega)]
    exact ih h
theorem pt_sh_at {m b : Nat} {f : Nat → Int32} {j : Nat} : ∀ {n : Nat}, j < n → pt_sh m b f n (b + j) = f (b + j + m) := by
  intro n
  induction n with
  | zero => intro h; omega
  | succ n ih =>
    intro h
    show upd (pt_sh m b f n) (b + n) (pt_sh m b f n (b + n + m)) (b + j) = _
    by_cases e : j = n
    · rw [e, pk_us]; exact pt_sh_ge (by omega)
    · rw [pk_un (by omega)]; exact ih (by omega)
theorem pt_sh_in {m b : Nat} {f : Nat → Int32} (hf : ∀ i, ∃ p, p < 64 ∧ f i = nI p) : ∀ (n i : Nat), ∃ p, p < 64 ∧ pt_sh m b f n i = nI p := by
  intro n
  induction n with
  | zero => exact hf
  | succ n ih =>
    intro i
    show ∃ p, p < 64 ∧ upd (pt_sh m b f n) (b + n) (pt_sh m b f n (b + n + m)) i = nI p
    by_cases e : i = b + n
    · rw [e, pk_us]; exact ih _
    · rw [pk_un e]; exact ih i
/-- the view after n entries of the batch at first -/
def pt_vw (ep ed : Nat → Int32) (first b : Nat) (f : Nat → Int32) : Nat → Nat → Int32
  | 0 => f
  | n + 1 => upd (pt_vw ep ed first b f n) (b + (ep (first + n)).toNatClampNeg) (pt_vw ep ed first b f n (b + (ep (first + n)).toNatClampNeg) + ed (first + n))
/-- n cells from b on set to 0 -/
def pt_clr (b : Nat) (f : Nat → Int32) : Nat → Nat → Int32
  | 0 => f
  | n + 1 => upd (pt_clr b f n) (b + n) 0
theorem pt_clr_at {b : Nat} {f : Nat → Int32} {j : Nat} : ∀ {n : Nat}, j < n → pt_clr b f n (b + j) = 0 := by
  intro n
  induction n with
  | zero => intro h; omega
  | succ n ih =>
    intro h
    show upd (pt_clr b f n) (b + n) 0 (b + j) = 0
    by_cases e : j = n
    · rw [e, pk_us]
    · rw [pk_un (by omega)]; exact ih (by omega)
theorem pt_clr_out {b : Nat} {f : Nat → Int32} {i : Nat} : ∀ {n : Nat}, (i < b ∨ b + n ≤ i) → pt_clr b f n i = f i := by
  intro n
  induction n with
  | zero => intro _; rfl
  | succ n ih =>
    intro h
    show upd (pt_clr b f n) (b + n) 0 i = f i
    rw [pk_un (by omega)]; exact ih (by omega)
end
section
/-! the graph and the frontier -/
def pt_K (a b : Nat) : Nat := if a = b then 0 else if a = 3 ∨ b = 0 then 9 else if a = 2 ∧ b = 1 then 1 else 0
/-- the point p could result in (o, e, r); 9 feedback edges stand for none: r is below 9 -/
def pt_cr (p o e r : Nat) : Prop := p / 4 % 4 ≤ e ∧ p % 4 + pt_K (p / 16) o ≤ r
/-- the pair (e, r) is one of M for operator o at worker w -/
def pt_M (f : Nat → Int32) (w o e r : Nat) : Prop := ∃ a q, a < 4 ∧ q < 4 ∧ q + pt_K a o = r ∧ 0 < f (64 * w + (16 * a + 4 * e + q))
def pt_lst (M : Nat → Prop) (m : Nat) : Prop := m ≤ 5 ∧ (m < 5 → M m) ∧ ∀ r, r < m → ¬ M r
theorem pt_lst_ex (M : Nat → Prop) : ∃ m, pt_lst M m := by
  by_cases h : ∃ r, r < 5 ∧ M r
  · obtain ⟨k, ⟨hk1, hk2⟩, hl⟩ := pk_least (fun r => r < 5 ∧ M r) h
    exact ⟨k, by omega, fun _ => hk2, fun r hr m => hl r hr ⟨by omega, m⟩⟩
  · exact ⟨5, Nat.le_refl 5, fun z => absurd z (by omega), fun r hr m => h ⟨r, hr, m⟩⟩
theorem pt_lst_un {M : Nat → Prop} {m n : Nat} (h : pt_lst M m) (g : pt_lst M n) : m = n := by
  obtain ⟨a1, a2, a3⟩ := h
  obtain ⟨b1, b2, b3⟩ := g
  rcases Nat.lt_trichotomy m n with z | z | z
  · exact absurd (a2 (by omega)) (b3 m z)
  · exact z
  · exact absurd (b2 (by omega)) (a3 n z)
/-- the least round of epoch e in M, 5 where there is none -/
noncomputable def pt_L (f : Nat → Int32) (w o e : Nat) : Nat := Classical.choose (pt_lst_ex (pt_M f w o e))
theorem pt_L_s (f : Nat → Int32) (w o e : Nat) : pt_lst (pt_M f w o e) (pt_L f w o e) := Classical.choose_spec (pt_lst_ex (pt_M f w o e))
def pt_low (L : Nat → Nat) : Nat → Nat
  | 0 => 5
  | e + 1 => if L e < pt_low L e then L e else pt_low L e
def pt_sz (L : Nat → Nat) : Nat → Nat
  | 0 => 0
  | e + 1 => if L e < pt_low L e then pt_sz L e + 1 else pt_sz L e
theorem pt_low_t {L : Nat → Nat} {e : Nat} (h : L e < pt_low L e) : pt_low L (e + 1) = L e := if_pos h
theorem pt_low_f {L : Nat → Nat} {e : Nat} (h : ¬ L e < pt_low L e) : pt_low L (e + 1) = pt_low L e := if_neg h
theorem pt_sz_t {L : Nat → Nat} {e : Nat} (h : L e < pt_low L e) : pt_sz L (e + 1) = pt_sz L e + 1 := if_pos h
theorem pt_sz_f {L : Nat → Nat} {e : Nat} (h : ¬ L e < pt_low L e) : pt_sz L (e + 1) = pt_sz L e := if_neg h
theorem pt_sz_le (L : Nat → Nat) : ∀ e, pt_sz L e ≤ e := by
  intro e
  induction e with
  | zero => exact Nat.le_refl 0
  | succ e ih =>
    by_cases h : L e < pt_low L e
    · rw [pt_sz_t h]; omega
    · rw [pt_sz_f h]; omega
theorem pt_low_lt {L : Nat → Nat} {r : Nat} : ∀ {e : Nat}, r < pt_low L e ↔ r < 5 ∧ ∀ e', e' < e → r < L e' := by
  intro e
  induction e with
  | zero => exact ⟨fun h => ⟨h, fun e' h' => absurd h' (by omega)⟩, fun h => h.1⟩
  | succ e ih =>
    by_cases h : L e < pt_low L e
    · rw [pt_low_t h]
      constructor
      · intro g
        have k := ih.mp (show r < pt_low L e by omega)
        refine ⟨k.1, fun e' he => ?_⟩
        by_cases x : e' = e
        · rw [x]; exact g
        · exact k.2 e' (by omega)
      · intro g
        exact g.2 e (by omega)
    · rw [pt_low_f h]
      constructor
      · intro g
        have k := ih.mp g
        refine ⟨k.1, fun e' he => ?_⟩
        by_cases x : e' = e
        · rw [x]; omega
        · exact k.2 e' (by omega)
      · intro g
        exact ih.mpr ⟨g.1, fun e' he => g.2 e' (by omega)⟩
theorem pt_low_le (L : Nat → Nat) (e : Nat) : pt_low L e ≤ 5 := by
  rcases Nat.lt_or_ge 5 (pt_low L e) with h | h
  · exact absurd (pt_low_lt.mp h).1 (by omega)
  · exact h
/-- the pair (e, r) is an element of the frontier -/
def pt_F (f : Nat → Int32) (w o e r : Nat) : Prop := pt_M f w o e r ∧ ∀ e2 r2, e2 ≤ e → r2 ≤ r → ¬ (e2 = e ∧ r2 = r) → ¬ pt_M f w o e2 r2
theorem pt_F_iff {f : Nat → Int32} {w o e r : Nat} (hr : r < 5) : pt_F f w o e r ↔ r = pt_L f w o e ∧ pt_L f w o e < pt_low (pt_L f w o) e := by
  obtain ⟨l1, l2, l3⟩ := pt_L_s f w o e
  constructor
  · rintro ⟨h1, h2⟩
    have g : r = pt_L f w o e := by
      rcases Nat.lt_trichotomy r (pt_L f w o e) with z | z | z
      · exact absurd h1 (l3 r z)
      · exact z
      · exact absurd (l2 (by omega)) (h2 e _ (Nat.le_refl e) (Nat.le_of_lt z) (fun t => by have := t.2; omega))
    refine ⟨g, pt_low_lt.mpr ⟨by omega, fun e' he => ?_⟩⟩
    obtain ⟨k1, k2, k3⟩ := pt_L_s f w o e'
    rcases Nat.lt_or_ge (pt_L f w o e) (pt_L f w o e') with z | z
    · exact z
    · exact absurd (k2 (by omega)) (h2 e' _ (by omega) (by omega) (fun t => by have := t.1; omega))
  · rintro ⟨h1, h2⟩
    have k := pt_low_lt.mp h2
    refine ⟨by rw [h1]; exact l2 k.1, fun e2 r2 g1 g2 g3 => ?_⟩
    by_cases x : e2 = e
    · rw [x]
      exact l3 r2 (by have : ¬ r2 = r := fun t => g3 ⟨x, t⟩; omega)
    · have := k.2 e2 (by omega)
      exact (pt_L_s f w o e2).2.2 r2 (by omega)
/-! occurrences -/
/-- msgs p and the capabilities of the first w workers at p -/
def pt_occ (m c : Nat → Int32) (p : Nat) : Nat → Nat
  | 0 => (m p).toNatClampNeg
  | w + 1 => pt_occ m c p w + (c (64 * w + p)).toNatClampNeg
theorem pt_occ_le {m c : Nat → Int32} {p k : Nat} (hk : k < 2 ^ 20) (hm : ∀ i, ∃ a, a ≤ k ∧ m i = nI a) (hc : ∀ i, ∃ a, a ≤ k ∧ c i = nI a) : ∀ w, pt_occ m c p w ≤ k * (w + 1) := by
  intro w
  induction w with
  | zero =>
    obtain ⟨a, ha, e⟩ := hm p
    show (m p).toNatClampNeg ≤ _
    rw [e, nI_clamp (by omega)]
    omega
  | succ w ih =>
    obtain ⟨a, ha, e⟩ := hc (64 * w + p)
    show pt_occ m c p w + (c (64 * w + p)).toNatClampNeg ≤ _
    rw [e, nI_clamp (by omega), Nat.mul_add, Nat.mul_one]
    omega
theorem pt_occ_tail {m c : Nat → Int32} {p W : Nat} (hc : ∀ i, 64 * W ≤ i → c i = 0) : ∀ {w : Nat}, W ≤ w → pt_occ m c p w = pt_occ m c p W := by
  intro w
  induction w with
  | zero => intro h; rw [show W = 0 by omega]
  | succ w ih =>
    intro h
    by_cases e : W = w + 1
    · rw [e]
    · show pt_occ m c p w + (c (64 * w + p)).toNatClampNeg = _
      rw [hc _ (by omega), ih (by omega)]
      rfl
end
section
/-! a channel's counts and sizes -/
def pt_lay (bs : Nat → Int32) : Nat → List Nat → Prop
  | _, [] => True
  | o, a :: l => bs o = nI a ∧ pt_lay bs (o + 1) l
theorem pt_lay_cong {bs bs' : Nat → Int32} : ∀ {l : List Nat} {o o' : Nat}, (∀ j, j < l.length → bs' (o' + j) = bs (o + j)) → pt_lay bs o l → pt_lay bs' o' l
  | [], _, _, _, _ => trivial
  | a :: l, o, o', h, hb => by
    refine ⟨?_, pt_lay_cong (l := l) (o := o + 1) (o' := o' + 1) (fun j hj => ?_) hb.2⟩
    · have := h 0 (Nat.succ_pos _)
      exact this.trans hb.1
    · have := h (j + 1) (Nat.succ_lt_succ hj)
      rw [show o' + 1 + j = o' + (j + 1) by omega, show o + 1 + j = o + (j + 1) by omega]
      exact this
theorem pt_lay_app {bs : Nat → Int32} {n : Nat} : ∀ {l : List Nat} {o : Nat}, pt_lay bs o l → bs (o + l.length) = nI n → pt_lay bs o (l ++ [n])
  | [], _, _, h => ⟨h, trivial⟩
  | a :: l, o, hb, h => by
    refine ⟨hb.1, pt_lay_app hb.2 ?_⟩
    have h' : bs (o + (l.length + 1)) = nI n := h
    rw [show o + 1 + l.length = o + (l.length + 1) by omega]
    exact h'
/-- channel c holds batches of the sizes l -/
def pt_ch (l : List Nat) (c : Nat) (bc bs ec : Nat → Int32) : Prop := pt_all1 l ∧ pt_sum l ≤ 32 ∧ bc c = nI l.length ∧ ec c = nI (pt_sum l) ∧ pt_lay bs (32 * c) l
theorem pt_ch_len {l : List Nat} {c : Nat} {bc bs ec : Nat → Int32} (h : pt_ch l c bc bs ec) : l.length ≤ 32 := Nat.le_trans (pt_len_sum h.1) h.2.1
theorem pt_ch_cong {l : List Nat} {c : Nat} {bc bs ec bc' bs' ec' : Nat → Int32} (h : pt_ch l c bc bs ec) (h1 : bc' c = bc c) (h2 : ec' c = ec c) (h3 : ∀ j, j < l.length → bs' (32 * c + j) = bs (32 * c + j)) : pt_ch l c bc' bs' ec' :=
  ⟨h.1, h.2.1, h1.trans h.2.2.1, h2.trans h.2.2.2.1, pt_lay_cong h3 h.2.2.2.2⟩
theorem pt_ch_app {l : List Nat} {c n : Nat} {bc bs ec bc' bs' ec' : Nat → Int32} (h : pt_ch l c bc bs ec) (hn : 1 ≤ n) (hs : pt_sum l + n ≤ 32) (h1 : bc' c = nI (l.length + 1)) (h2 : ec' c = nI (pt_sum l + n)) (h3 : ∀ j, j < l.length → bs' (32 * c + j) = bs (32 * c + j)) (h4 : bs' (32 * c + l.length) = nI n) : pt_ch (l ++ [n]) c bc' bs' ec' := by
  refine ⟨?_, ?_, ?_, ?_, pt_lay_app (pt_lay_cong h3 h.2.2.2.2) h4⟩
  · intro a ha
    rcases List.mem_append.mp ha with z | z
    · exact h.1 a z
    · rw [List.mem_singleton.mp z]; exact hn
  · rw [pt_sum_app]; exact hs
  · rw [h1, List.length_append]; rfl
  · rw [h2, pt_sum_app]
theorem pt_ch_tail {a : Nat} {l : List Nat} {c : Nat} {bc bs ec bc' bs' ec' : Nat → Int32} (h : pt_ch (a :: l) c bc bs ec) (h1 : bc' c = nI l.length) (h2 : ec' c = nI (pt_sum l)) (h3 : ∀ j, j < l.length → bs' (32 * c + j) = bs (32 * c + j + 1)) : pt_ch l c bc' bs' ec' := by
  have hs : a + pt_sum l ≤ 32 := h.2.1
  exact ⟨(pt_all1_c h.1).2, by omega, h1, h2, pt_lay_cong (o := 32 * c + 1) (fun j hj => by rw [h3 j hj, show 32 * c + j + 1 = 32 * c + 1 + j by omega]) h.2.2.2.2.2⟩
/-- .. and its entries' marks -/
def pt_mk (l : List Nat) (c : Nat) (st : Nat → Int32) : Prop := ∀ j, j < pt_sum l → st (32 * c + j) = pt_st l j
theorem pt_mk_cong {l : List Nat} {c : Nat} {st st' : Nat → Int32} (h : pt_mk l c st) (h1 : ∀ j, j < pt_sum l → st' (32 * c + j) = st (32 * c + j)) : pt_mk l c st' := fun j hj => (h1 j hj).trans (h j hj)
theorem pt_mk_app {l : List Nat} {c n : Nat} {st st' : Nat → Int32} (ha : pt_all1 l) (h : pt_mk l c st) (h1 : ∀ j, j < pt_sum l → st' (32 * c + j) = st (32 * c + j)) (h2 : ∀ j, j < n → st' (32 * c + pt_sum l + j) = if j = 0 then 1 else 0) : pt_mk (l ++ [n]) c st' := by
  intro j hj
  rw [pt_sum_app] at hj
  by_cases z : j < pt_sum l
  · rw [h1 j z, h j z, pt_st_app1 ha j z]
  · obtain ⟨i, rfl⟩ : ∃ i, j = pt_sum l + i := ⟨j - pt_sum l, by omega⟩
    rw [show 32 * c + (pt_sum l + i) = 32 * c + pt_sum l + i by omega, h2 i (by omega), pt_st_app2 ha i (by omega)]
theorem pt_mk_tail {a : Nat} {l : List Nat} {c : Nat} {st st' : Nat → Int32} (ha : 1 ≤ a) (h : pt_mk (a :: l) c st) (h1 : ∀ j, j < pt_sum l → st' (32 * c + j) = st (32 * c + j + a)) : pt_mk l c st' := by
  intro j hj
  have hs : pt_sum (a :: l) = a + pt_sum l := rfl
  have := h (a + j) (by rw [hs]; omega)
  rw [h1 j hj, show 32 * c + j + a = 32 * c + (a + j) by omega, this, pt_st_out ha]
/-! one batch of n entries more in channel c0 -/
theorem pt_app_ch {Ls : Nat → List Nat} {c0 n : Nat} {bc bs ec : Nat → Int32} (hn : 1 ≤ n) (h0 : pt_ch (Ls c0) c0 bc bs ec) (hr : pt_sum (Ls c0) + n ≤ 32) {c : Nat} (h : pt_ch (Ls c) c bc bs ec) :
    pt_ch (if c = c0 then Ls c0 ++ [n] else Ls c) c (upd bc c0 (bc c0 + 1)) (upd bs (32 * c0 + (bc c0).toNatClampNeg) (nI n)) (upd ec c0 (ec c0 + nI n)) := by
  have hl := pt_len_sum h0.1
  have e1 : (bc c0).toNatClampNeg = (Ls c0).length := by rw [h0.2.2.1, nI_clamp (by omega)]
  rw [e1]
  by_cases e : c = c0
  · subst e
    rw [if_pos rfl]
    exact pt_ch_app h0 hn hr (by rw [pk_us, h0.2.2.1, nI_1]) (by rw [pk_us, h0.2.2.2.1, nI_add]) (fun j hj => pk_un (by omega)) pk_us
  · rw [if_neg e]
    have := pt_ch_len h
    exact pt_ch_cong h (pk_un e) (pk_un e) (fun j hj => pk_un (by omega))
theorem pt_app_mk {Ls : Nat → List Nat} {c0 n b : Nat} {bc bs ec st pend : Nat → Int32} (hn : pt_cnt pend b 64 = n) (h0 : pt_ch (Ls c0) c0 bc bs ec) (hr : pt_sum (Ls c0) + n ≤ 32) {c : Nat} (h : pt_ch (Ls c) c bc bs ec) (hm : pt_mk (Ls c) c st) :
    pt_mk (if c = c0 then Ls c0 ++ [n] else Ls c) c (pt_cs pend b (32 * c0 + (ec c0).toNatClampNeg) st 64) := by
  have e1 : (ec c0).toNatClampNeg = pt_sum (Ls c0) := by rw [h0.2.2.2.1, nI_clamp (by omega)]
  rw [e1]
  by_cases e : c = c0
  · subst e
    rw [if_pos rfl]
    exact pt_mk_app h0.1 hm (fun j hj => pt_cs_out (by omega)) (fun j hj => pt_cs_at (by omega))
  · rw [if_neg e]
    have := h.2.1
    exact pt_mk_cong hm (fun j hj => pt_cs_out (by omega))
/-! what a broadcast writes, channel by channel -/
def pt_bbc (w : Nat) (bc : Nat → Int32) : Nat → Nat → Int32
  | 0 => bc
  | r + 1 => upd (pt_bbc w bc r) (4 * w + r) (pt_bbc w bc r (4 * w + r) + 1)
def pt_bbs (w n : Nat) (bc bs : Nat → Int32) : Nat → Nat → Int32
  | 0 => bs
  | r + 1 => upd (pt_bbs w n bc bs r) (32 * (4 * w + r) + (pt_bbc w bc r (4 * w + r)).toNatClampNeg) (nI n)
def pt_bec (w n : Nat) (ec : Nat → Int32) : Nat → Nat → Int32
  | 0 => ec
  | r + 1 => upd (pt_bec w n ec r) (4 * w + r) (pt_bec w n ec r (4 * w + r) + nI n)
def pt_bep (pend : Nat → Int32) (w n : Nat) (ec ep : Nat → Int32) : Nat → Nat → Int32
  | 0 => ep
  | r + 1 => pt_ep pend (64 * w) (32 * (4 * w + r) + (pt_bec w n ec r (4 * w + r)).toNatClampNeg) (pt_bep pend w n ec ep r) 64
def pt_bed (pend : Nat → Int32) (w n : Nat) (ec ed : Nat → Int32) : Nat → Nat → Int32
  | 0 => ed
  | r + 1 => pt_ed pend (64 * w) (32 * (4 * w + r) + (pt_bec w n ec r (4 * w + r)).toNatClampNeg) (pt_bed pend w n ec ed r) 64
def pt_bcs (pend : Nat → Int32) (w n : Nat) (ec st : Nat → Int32) : Nat → Nat → Int32
  | 0 => st
  | r + 1 => pt_cs pend (64 * w) (32 * (4 * w + r) + (pt_bec w n ec r (4 * w + r)).toNatClampNeg) (pt_bcs pend w n ec st r) 64
theorem pt_bec_hi {w n : Nat} {ec : Nat → Int32} {c : Nat} : ∀ {R : Nat}, (c < 4 * w ∨ 4 * w + R ≤ c) → pt_bec w n ec R c = ec c := by
  intro R
  induction R with
  | zero => intro _; rfl
  | succ R ih =>
    intro h
    show upd (pt_bec w n ec R) (4 * w + R) _ c = _
    rw [pk_un (by omega)]
    exact ih (by omega)
theorem pt_bbc_hi {w : Nat} {bc : Nat → Int32} {c : Nat} : ∀ {R : Nat}, (c < 4 * w ∨ 4 * w + R ≤ c) → pt_bbc w bc R c = bc c := by
  intro R
  induction R with
  | zero => intro _; rfl
  | succ R ih =>
    intro h
    show upd (pt_bbc w bc R) (4 * w + R) _ c = _
    rw [pk_un (by omega)]
    exact ih (by omega)
/-- the sizes' lists after the channels (w, 0) .. (w, R - 1) have got their batch -/
def pt_bL (w n : Nat) (Ls : Nat → List Nat) (R c : Nat) : List Nat := if 4 * w ≤ c ∧ c < 4 * w + R then Ls c ++ [n] else Ls c
theorem pt_bL_s {w n R c : Nat} {Ls : Nat → List Nat} : pt_bL w n Ls (R + 1) c = if c = 4 * w + R then pt_bL w n Ls R (4 * w + R) ++ [n] else pt_bL w n Ls R c := by
  unfold pt_bL
  by_cases e : c = 4 * w + R
  · rw [if_pos e, if_pos (by omega), if_neg (by omega), e]
  · rw [if_neg e]
    by_cases h : 4 * w ≤ c ∧ c < 4 * w + R
    · rw [if_pos h, if_pos (by omega)]
    · rw [if_neg h, if_neg (by omega)]
theorem pt_bL_at {w n R : Nat} {Ls : Nat → List Nat} : pt_bL w n Ls R (4 * w + R) = Ls (4 * w + R) := if_neg (by omega)
theorem pt_bch {w n : Nat} {Ls : Nat → List Nat} {bc bs ec : Nat → Int32} (hw : w < 4) (hn : 1 ≤ n) (h : ∀ c, c < 16 → pt_ch (Ls c) c bc bs ec) :
    ∀ {R : Nat}, R ≤ 4 → (∀ r, r < R → pt_sum (Ls (4 * w + r)) + n ≤ 32) → ∀ c, c < 16 → pt_ch (pt_bL w n Ls R c) c (pt_bbc w bc R) (pt_bbs w n bc bs R) (pt_bec w n ec R) := by
  intro R
  induction R with
  | zero =>
    intro _ _ c hc
    show pt_ch (if 4 * w ≤ c ∧ c < 4 * w + 0 then Ls c ++ [n] else Ls c) c bc bs ec
    rw [if_neg (by omega)]
    exact h c hc
  | succ R ih =>
    intro hR hr c hc
    have k := ih (by omega) (fun r hr' => hr r (by omega))
    rw [pt_bL_s]
    exact pt_app_ch (Ls := pt_bL w n Ls R) (c0 := 4 * w + R) hn (k _ (by omega)) (by rw [pt_bL_at]; exact hr R (by omega)) (k c hc)
theorem pt_bmk {w n : Nat} {Ls : Nat → List Nat} {bc bs ec st pend : Nat → Int32} (hw : w < 4) (hn : 1 ≤ n) (hp : pt_cnt pend (64 * w) 64 = n) (h : ∀ c, c < 16 → pt_ch (Ls c) c bc bs ec) (hm : ∀ c, c < 16 → pt_mk (Ls c) c st) :
    ∀ {R : Nat}, R ≤ 4 → (∀ r, r < R → pt_sum (Ls (4 * w + r)) + n ≤ 32) → ∀ c, c < 16 → pt_mk (pt_bL w n Ls R c) c (pt_bcs pend w n ec st R) := by
  intro R
  induction R with
  | zero =>
    intro _ _ c hc
    show pt_mk (if 4 * w ≤ c ∧ c < 4 * w + 0 then Ls c ++ [n] else Ls c) c st
    rw [if_neg (by omega)]
    exact hm c hc
  | succ R ih =>
    intro hR hr c hc
    have k := ih (by omega) (fun r hr' => hr r (by omega))
    have kc := pt_bch hw hn h (R := R) (by omega) (fun r hr' => hr r (by omega))
    rw [pt_bL_s]
    exact pt_app_mk (Ls := pt_bL w n Ls R) (c0 := 4 * w + R) hp (kc _ (by omega)) (by rw [pt_bL_at]; exact hr R (by omega)) (kc c hc) (k c hc)
theorem pt_bep_in {pend : Nat → Int32} {w n : Nat} {ec ep : Nat → Int32} (he : ∀ i, ∃ p, p < 64 ∧ ep i = nI p) : ∀ R i, ∃ p, p < 64 ∧ pt_bep pend w n ec ep R i = nI p := by
  intro R
  induction R with
  | zero => exact he
  | succ R ih => exact pt_ep_in ih (Nat.le_refl 64)
end
section
/-! X: the small methods, and the calls that change one worker's counts -/
def pt_okW (W : Nat) (x : Int32) : Prop := ∃ j, j < W ∧ x = nI j
def pt_ok (x : Int32) : Prop := ∃ j, j < 4 ∧ x = nI j
def pt_fr (d : Nat) : Nat := if d = 0 then 0 else if d = 1 then 1 else 2
def pt_to (d : Nat) : Nat := if d = 1 then 2 else if d = 3 then 3 else 1
def pt_r2 (d r : Nat) : Nat := if d = 2 then r + 1 else r
theorem pt_10 : ¬ (1 : Int32) = 0 := by decide
theorem pt_fr_lt (d : Nat) : pt_fr d < 3 := by unfold pt_fr; split <;> (try split) <;> omega
theorem pt_to_lt (d : Nat) : pt_to d < 4 := by unfold pt_to; split <;> (try split) <;> omega
theorem pt_w64 (w p : Nat) : nI w * 64 + nI p = nI (64 * w + p) := by
  rw [show (64 : Int32) = nI 64 from rfl, pk_mul, nI_add, Nat.mul_comm]
theorem pt_w4 (w p : Nat) : nI w * 4 + nI p = nI (4 * w + p) := by
  rw [show (4 : Int32) = nI 4 from rfl, pk_mul, nI_add, Nat.mul_comm]
theorem pt_c32 (c : Nat) : nI c * 32 = nI (32 * c) := by
  rw [show (32 : Int32) = nI 32 from rfl, pk_mul, Nat.mul_comm]
theorem pt_ixE (a b c : Nat) : nI a * 16 + nI b * 4 + nI c = nI (16 * a + 4 * b + c) := by
  rw [show (16 : Int32) = nI 16 from rfl, show (4 : Int32) = nI 4 from rfl, pk_mul, pk_mul, nI_add, nI_add, Nat.mul_comm a, Nat.mul_comm b]
theorem pt_place (w a b c : Nat) : nI w * 64 + (nI a * 16 + nI b * 4 + nI c) = nI (64 * w + (16 * a + 4 * b + c)) := by
  rw [pt_ixE, pt_w64]
theorem pt_gainE {c a b m : Nat} (h : m + b = c + a) : nI c + (nI a - nI b) = nI m := by
  have e : nI m + nI b = nI c + nI a := by rw [nI_add, nI_add, h]
  rw [Int32.sub_eq_add_neg, ← Int32.add_assoc, ← e, Int32.add_assoc, Int32.add_right_neg, Int32.add_zero]
section
variable {ms ca pe vi bc bs ec ep ed : Nat → Int32} {W : Nat} {f0 : Int32}
theorem px_isW {post : Int32 → Prop} {w : Nat} (hW : W ≤ 4) (hw : w < W) (h : post 1) : wpX_isWorker post (nI W, ms, ca, pe, vi, bc, bs, ec, ep, ed) (nI w) :=
  br_f (nI_pos (by omega)) (br_f (nI_ge hw (by omega)) h)
theorem px_isWn {post : Int32 → Prop} {x : Int32} (hW : W ≤ 4) (hx : ¬ pt_okW W x) (h : post 0) : wpX_isWorker post (nI W, ms, ca, pe, vi, bc, bs, ec, ep, ed) x := by
  rcases pk_ix x (n := W) (by omega) with z | z | z
  · exact br_t z h
  · exact br_c (fun _ => h) (fun _ => br_t z h)
  · exact absurd z hx
theorem px_inR {post : Int32 → Prop} {a : Nat} (ha : a < 4) (h : post 1) : wpX_isInRange post () (nI a) :=
  br_f (nI_pos (by omega)) (br_f (nI_nlt (a := 3) (b := a) (by omega) (by decide)) h)
theorem pt_3lt {x : Int32} (h : nI 4 ≤ x) : 3 < x := by
  rw [Int32.lt_iff_toInt_lt]
  rw [Int32.le_iff_toInt_le, nI_toInt (by decide)] at h
  have e : (3 : Int32).toInt = 3 := by decide
  omega
theorem px_inRn {post : Int32 → Prop} {x : Int32} (hx : ¬ pt_ok x) (h : post 0) : wpX_isInRange post () x := by
  rcases pk_ix x (n := 4) (by decide) with z | z | z
  · exact br_t z h
  · exact br_c (fun _ => h) (fun _ => br_t (pt_3lt z) h)
  · exact absurd z hx
theorem px_areR {post : Int32 → Prop} {a b c : Nat} (ha : a < 4) (hb : b < 4) (hc : c < 4) (h : post 1) : wpX_areInRange post () (nI a) (nI b) (nI c) := by
  unfold wpX_areInRange
  exact px_inR ha (br_f pt_10 (px_inR hb (br_f pt_10 (px_inR hc (br_f pt_10 h)))))
theorem px_areRn {post : Int32 → Prop} {x y z : Int32} (hn : ¬ (pt_ok x ∧ pt_ok y ∧ pt_ok z)) (h : post 0) : wpX_areInRange post () x y z := by
  unfold wpX_areInRange
  by_cases h1 : pt_ok x
  · obtain ⟨a, ha, rfl⟩ := h1
    refine px_inR ha (br_f pt_10 ?_)
    by_cases h2 : pt_ok y
    · obtain ⟨b, hb, rfl⟩ := h2
      refine px_inR hb (br_f pt_10 ?_)
      exact px_inRn (fun h3 => hn ⟨⟨a, ha, rfl⟩, ⟨b, hb, rfl⟩, h3⟩) (br_t rfl h)
    · exact px_inRn h2 (br_t rfl h)
  · exact px_inRn h1 (br_t rfl h)
theorem px_g4 {bad body : Prop} {x a b c : Int32} (hW : W ≤ 4) (h0 : ¬ (pt_okW W x ∧ pt_ok a ∧ pt_ok b ∧ pt_ok c) → bad) (h1 : pt_okW W x → pt_ok a → pt_ok b → pt_ok c → body) :
    wpX_isWorker (fun r => (r = 0 → bad) ∧ (¬ r = 0 → wpX_areInRange (fun r' => (r' = 0 → bad) ∧ (¬ r' = 0 → body)) () a b c)) (nI W, ms, ca, pe, vi, bc, bs, ec, ep, ed) x := by
  by_cases hx : pt_okW W x
  · obtain ⟨w, hw, rfl⟩ := hx
    refine px_isW hW hw (br_f pt_10 ?_)
    by_cases ha : pt_ok a ∧ pt_ok b ∧ pt_ok c
    · obtain ⟨⟨a, k1, rfl⟩, ⟨b, k2, rfl⟩, ⟨c, k3, rfl⟩⟩ := ha
      exact px_areR k1 k2 k3 (br_f pt_10 (h1 ⟨w, hw, rfl⟩ ⟨a, k1, rfl⟩ ⟨b, k2, rfl⟩ ⟨c, k3, rfl⟩))
    · exact px_areRn ha (br_t rfl (h0 (fun t => ha t.2)))
  · exact px_isWn hW hx (br_t rfl (h0 (fun t => hx t.1)))
theorem px_g3 {bad body : Prop} {a b c : Int32} (h0 : ¬ (pt_ok a ∧ pt_ok b ∧ pt_ok c) → bad) (h1 : pt_ok a → pt_ok b → pt_ok c → body) :
    wpX_areInRange (fun r' => (r' = 0 → bad) ∧ (¬ r' = 0 → body)) () a b c := by
  by_cases ha : pt_ok a ∧ pt_ok b ∧ pt_ok c
  · obtain ⟨⟨a, k1, rfl⟩, ⟨b, k2, rfl⟩, ⟨c, k3, rfl⟩⟩ := ha
    exact px_areR k1 k2 k3 (br_f pt_10 (h1 ⟨a, k1, rfl⟩ ⟨b, k2, rfl⟩ ⟨c, k3, rfl⟩))
  · exact px_areRn ha (br_t rfl (h0 ha))
theorem px_g2 {bad body : Prop} {x a : Int32} (hW : W ≤ 4) (h0 : ¬ (pt_okW W x ∧ pt_ok a) → bad) (h1 : pt_okW W x → pt_ok a → body) :
    wpX_isWorker (fun r => (r = 0 → bad) ∧ (¬ r = 0 → wpX_isInRange (fun r' => (r' = 0 → bad) ∧ (¬ r' = 0 → body)) () a)) (nI W, ms, ca, pe, vi, bc, bs, ec, ep, ed) x := by
  by_cases hx : pt_okW W x
  · obtain ⟨w, hw, rfl⟩ := hx
    refine px_isW hW hw (br_f pt_10 ?_)
    by_cases ha : pt_ok a
    · obtain ⟨a, k1, rfl⟩ := ha
      exact px_inR k1 (br_f pt_10 (h1 ⟨w, hw, rfl⟩ ⟨a, k1, rfl⟩))
    · exact px_inRn ha (br_t rfl (h0 (fun t => ha t.2)))
  · exact px_isWn hW hx (br_t rfl (h0 (fun t => hx t.1)))
theorem px_gWW {bad body : Prop} {x a : Int32} (hW : W ≤ 4) (h0 : ¬ (pt_okW W x ∧ pt_okW W a) → bad) (h1 : pt_okW W x → pt_okW W a → body) :
    wpX_isWorker (fun r => (r = 0 → bad) ∧ (¬ r = 0 → wpX_isWorker (fun r' => (r' = 0 → bad) ∧ (¬ r' = 0 → body)) (nI W, ms, ca, pe, vi, bc, bs, ec, ep, ed) a)) (nI W, ms, ca, pe, vi, bc, bs, ec, ep, ed) x := by
  by_cases hx : pt_okW W x
  · obtain ⟨w, hw, rfl⟩ := hx
    refine px_isW hW hw (br_f pt_10 ?_)
    by_cases ha : pt_okW W a
    · obtain ⟨a, k1, rfl⟩ := ha
      exact px_isW hW k1 (br_f pt_10 (h1 ⟨w, hw, rfl⟩ ⟨a, k1, rfl⟩))
    · exact px_isWn hW ha (br_t rfl (h0 (fun t => ha t.2)))
  · exact px_isWn hW hx (br_t rfl (h0 (fun t => hx t.1)))
theorem px_place {post : Int32 → Prop} {w a b c : Nat} (h : post (nI (64 * w + (16 * a + 4 * b + c)))) : wpX_placeOf post () (nI w) (nI a) (nI b) (nI c) := by
  show post (nI w * 64 + (nI a * 16 + nI b * 4 + nI c))
  rw [pt_place]
  exact h
theorem px_point {post : Int32 → Prop} {a b c : Nat} (h : post (nI (16 * a + 4 * b + c))) : wpX_pointOf post () (nI a) (nI b) (nI c) := by
  show post (nI a * 16 + nI b * 4 + nI c)
  rw [pt_ixE]
  exact h
theorem px_chan {post : Int32 → Prop} {s r : Nat} (h : post (nI (4 * s + r))) : wpX_channelOf post () (nI s) (nI r) := by
  show post (nI s * 4 + nI r)
  rw [pt_w4]
  exact h
theorem px_before {post : Int32 → Prop} {d : Nat} (hd : d < 4) (h : post (nI (pt_fr d))) : wpX_operatorBefore post () (nI d) := by
  have c : d = 0 ∨ d = 1 ∨ d = 2 ∨ d = 3 := by omega
  rcases c with rfl | rfl | rfl | rfl
  · exact br_t rfl h
  · exact br_f (by decide) (br_t rfl h)
  · exact br_f (by decide) (br_f (by decide) h)
  · exact br_f (by decide) (br_f (by decide) h)
theorem px_after {post : Int32 → Prop} {d : Nat} (hd : d < 4) (h : post (nI (pt_to d))) : wpX_operatorAfter post () (nI d) := by
  have c : d = 0 ∨ d = 1 ∨ d = 2 ∨ d = 3 := by omega
  rcases c with rfl | rfl | rfl | rfl
  · exact br_f (by decide) (br_f (by decide) h)
  · exact br_t rfl h
  · exact br_f (by decide) (br_f (by decide) h)
  · exact br_f (by decide) (br_t rfl h)
theorem px_pend {post : Int32 → Prop} {w : Nat} (hw : w < 4) (h : post (nI (pt_cnt pe (64 * w) 64))) : wpX_pendingEntries post (f0, ms, ca, pe, vi, bc, bs, ec, ep, ed) (nI w) := by
  refine loop_0 (fun n i s => wX_pendingEntries_4 post (nI w) f0 ms ca pe vi bc bs ec ep ed n s (nI i)) (fun i s => s = nI (pt_cnt pe (64 * w) i)) 64 0 rfl ?_ ?_
  · intro n s hs
    exact pk_le 64 64 (fun _ => by rw [hs]; exact h) (fun z => absurd z (by omega))
  · intro n i s hi hs hn
    refine pk_le 64 i (fun z => absurd z (by omega)) (fun _ => ⟨pk_in (64 * w + i) 256 (by omega) (pt_w64 w i), ?_⟩)
    rw [pt_w64, nI_clamp (by omega)]
    by_cases z : pe (64 * w + i) = 0
    · refine br_t z (nm_r (nI_1 i) (hn _ ?_))
      rw [hs, pt_cnt_s, pt_nz_0 z]
      rfl
    · refine br_f z (nm_e (nm_r (nI_1 i) (hn _ ?_)))
      rw [hs, pt_cnt_s, pt_nz_1 z, nI_1]
theorem px_gain {post : Int32 → Prop} {q : Nat} {d : Int32} (hq : q < 256) (h : post (nI (pt_nz (pe q + d)) - nI (pt_nz (pe q)))) : wpX_entriesGained post (f0, ms, ca, pe, vi, bc, bs, ec, ep, ed) (nI q) d := by
  unfold wpX_entriesGained wX_entriesGained_14
  rw [nI_clamp (by omega)]
  have hi : vp_in (nI q) 256 := vp_in_nI hq (by omega)
  refine ⟨hi, ?_⟩
  by_cases z1 : pe q = 0
  · rw [pt_nz_0 z1] at h
    refine br_t z1 ⟨hi, ?_⟩
    by_cases z2 : pe q + d = 0
    · rw [pt_nz_0 z2] at h
      exact br_t z2 h
    · rw [pt_nz_1 z2] at h
      exact br_f z2 h
  · rw [pt_nz_1 z1] at h
    refine br_f z1 ⟨hi, ?_⟩
    by_cases z2 : pe q + d = 0
    · rw [pt_nz_0 z2] at h
      exact br_t z2 h
    · rw [pt_nz_1 z2] at h
      exact br_f z2 h
/-- how many entries worker w has with x at its point p -/
def pt_aft (pe : Nat → Int32) (w p : Nat) (x : Int32) : Nat := pt_cnt (upd pe (64 * w + p) x) (64 * w) 64
theorem pt_aft_le (pe : Nat → Int32) (w p : Nat) (x : Int32) : pt_aft pe w p x ≤ 64 := pt_cnt_le _ _ _
theorem pt_aft_e {w p : Nat} {d : Int32} (hp : p < 64) : nI (pt_cnt pe (64 * w) 64) + (nI (pt_nz (pe (64 * w + p) + d)) - nI (pt_nz (pe (64 * w + p)))) = nI (pt_aft pe w p (pe (64 * w + p) + d)) :=
  pt_gainE (pt_cnt_upd hp)
theorem px_send60 {post : Int32 → St2 → Prop} {w d e r : Nat} (hw : w < 4) (hd : d < 4) (he : e < 4) (hr : r < 5)
    (h4 : 3 < r → post (-4) (f0, ms, ca, pe, vi, bc, bs, ec, ep, ed))
    (h6 : r ≤ 3 → 16 < pt_aft pe w (16 * pt_to d + 4 * e + r) (pe (64 * w + (16 * pt_to d + 4 * e + r)) + 1) → post (-6) (f0, ms, ca, pe, vi, bc, bs, ec, ep, ed))
    (h0 : r ≤ 3 → pt_aft pe w (16 * pt_to d + 4 * e + r) (pe (64 * w + (16 * pt_to d + 4 * e + r)) + 1) ≤ 16 →
      post 0 (f0, upd ms (16 * pt_to d + 4 * e + r) (ms (16 * pt_to d + 4 * e + r) + 1), ca, upd pe (64 * w + (16 * pt_to d + 4 * e + r)) (pe (64 * w + (16 * pt_to d + 4 * e + r)) + 1), vi, bc, bs, ec, ep, ed)) :
    wX_send_60 post (nI w) (nI d) (nI e) (nI r) f0 ms ca pe vi bc bs ec ep ed := by
  have ht := pt_to_lt d
  have hal := pt_aft_le pe w (16 * pt_to d + 4 * e + r) (pe (64 * w + (16 * pt_to d + 4 * e + r)) + 1)
  unfold wX_send_60
  refine pk_le r 3 (fun h3 => ?_) (fun h3 => h4 h3)
  have h6' := h6 h3
  have h0' := h0 h3
  have hp : 16 * pt_to d + 4 * e + r < 64 := by omega
  have hi1 : vp_in (nI (16 * pt_to d + 4 * e + r)) 64 := vp_in_nI hp (by omega)
  have hi2 : vp_in (nI (64 * w + (16 * pt_to d + 4 * e + r))) 256 := vp_in_nI (by omega) (by omega)
  have ec1 : (nI (16 * pt_to d + 4 * e + r)).toNatClampNeg = 16 * pt_to d + 4 * e + r := nI_clamp (by omega)
  have ec2 : (nI (64 * w + (16 * pt_to d + 4 * e + r))).toNatClampNeg = 64 * w + (16 * pt_to d + 4 * e + r) := nI_clamp (by omega)
  refine px_after hd (px_place (px_pend hw (px_gain (by omega) ?_)))
  rw [pt_aft_e hp]
  refine pk_le _ 16 (fun h => px_point ⟨hi1, hi1, ?_⟩) (fun h => h6' h)
  rw [ec1]
  refine nm_e ⟨hi2, hi2, ?_⟩
  rw [ec2]
  exact nm_e (h0' h)
theorem px_send {post : Int32 → St2 → Prop} {w d e r : Nat} (hW : W ≤ 4) (hw : w < W) (hd : d < 4) (he : e < 4) (hr : r < 4)
    (h2 : ca (64 * w + (16 * pt_fr d + 4 * e + r)) = 0 → post (-2) (nI W, ms, ca, pe, vi, bc, bs, ec, ep, ed))
    (h4 : ¬ ca (64 * w + (16 * pt_fr d + 4 * e + r)) = 0 → 3 < pt_r2 d r → post (-4) (nI W, ms, ca, pe, vi, bc, bs, ec, ep, ed))
    (h6 : ¬ ca (64 * w + (16 * pt_fr d + 4 * e + r)) = 0 → pt_r2 d r ≤ 3 → 16 < pt_aft pe w (16 * pt_to d + 4 * e + pt_r2 d r) (pe (64 * w + (16 * pt_to d + 4 * e + pt_r2 d r)) + 1) → post (-6) (nI W, ms, ca, pe, vi, bc, bs, ec, ep, ed))
    (h0 : ¬ ca (64 * w + (16 * pt_fr d + 4 * e + r)) = 0 → pt_r2 d r ≤ 3 → pt_aft pe w (16 * pt_to d + 4 * e + pt_r2 d r) (pe (64 * w + (16 * pt_to d + 4 * e + pt_r2 d r)) + 1) ≤ 16 →
      post 0 (nI W, upd ms (16 * pt_to d + 4 * e + pt_r2 d r) (ms (16 * pt_to d + 4 * e + pt_r2 d r) + 1), ca, upd pe (64 * w + (16 * pt_to d + 4 * e + pt_r2 d r)) (pe (64 * w + (16 * pt_to d + 4 * e + pt_r2 d r)) + 1), vi, bc, bs, ec, ep, ed)) :
    wpX_send post (nI W, ms, ca, pe, vi, bc, bs, ec, ep, ed) (nI w) (nI d) (nI e) (nI r) := by
  have hf := pt_fr_lt d
  unfold wpX_send
  refine px_isW hW hw (br_f pt_10 (px_areR hd he hr (br_f pt_10 (px_before hd (px_place ⟨vp_in_nI (by omega) (by omega), ?_⟩)))))
  rw [nI_clamp (by omega)]
  refine br_c h2 (fun hc => ?_)
  by_cases z : d = 2
  · have e2 : pt_r2 d r = r + 1 := if_pos z
    rw [e2] at h4 h6 h0
    refine br_t (by rw [z]; rfl) ?_
    rw [nI_1]
    exact px_send60 (by omega) hd he (by omega) (h4 hc) (h6 hc) (h0 hc)
  · have e2 : pt_r2 d r = r := if_neg z
    rw [e2] at h4 h6 h0
    refine br_f (fun t => z ((nI_eq (by omega) (by decide)).mp t)) ?_
    exact px_send60 (by omega) hd he (by omega) (h4 hc) (h6 hc) (h0 hc)
theorem px_receive {post : Int32 → St2 → Prop} {w a e r : Nat} (hW : W ≤ 4) (hw : w < W) (ha : a < 4) (he : e < 4) (hr : r < 4)
    (h3 : ms (16 * a + 4 * e + r) = 0 → post (-3) (nI W, ms, ca, pe, vi, bc, bs, ec, ep, ed))
    (h0 : ¬ ms (16 * a + 4 * e + r) = 0 → post 0 (nI W, upd ms (16 * a + 4 * e + r) (ms (16 * a + 4 * e + r) - 1), upd ca (64 * w + (16 * a + 4 * e + r)) (ca (64 * w + (16 * a + 4 * e + r)) + 1), pe, vi, bc, bs, ec, ep, ed)) :
    wpX_receive post (nI W, ms, ca, pe, vi, bc, bs, ec, ep, ed) (nI w) (nI a) (nI e) (nI r) := by
  unfold wpX_receive
  have hi1 : vp_in (nI (16 * a + 4 * e + r)) 64 := vp_in_nI (by omega) (by omega)
  have hi2 : vp_in (nI (64 * w + (16 * a + 4 * e + r))) 256 := vp_in_nI (by omega) (by omega)
  refine px_isW hW hw (br_f pt_10 (px_areR ha he hr (br_f pt_10 (px_point ⟨hi1, ?_⟩))))
  rw [nI_clamp (by omega)]
  refine br_c h3 (fun hc => ⟨hi1, hi1, nm_e (px_place ⟨hi2, hi2, ?_⟩)⟩)
  rw [nI_clamp (by omega)]
  exact nm_e (h0 hc)
theorem px_drop {post : Int32 → St2 → Prop} {w a e r : Nat} (hW : W ≤ 4) (hw : w < W) (ha : a < 4) (he : e < 4) (hr : r < 4)
    (h2 : ca (64 * w + (16 * a + 4 * e + r)) = 0 → post (-2) (nI W, ms, ca, pe, vi, bc, bs, ec, ep, ed))
    (h6 : ¬ ca (64 * w + (16 * a + 4 * e + r)) = 0 → 16 < pt_aft pe w (16 * a + 4 * e + r) (pe (64 * w + (16 * a + 4 * e + r)) + (-1)) → post (-6) (nI W, ms, ca, pe, vi, bc, bs, ec, ep, ed))
    (h0 : ¬ ca (64 * w + (16 * a + 4 * e + r)) = 0 → pt_aft pe w (16 * a + 4 * e + r) (pe (64 * w + (16 * a + 4 * e + r)) + (-1)) ≤ 16 →
      post 0 (nI W, ms, upd ca (64 * w + (16 * a + 4 * e + r)) (ca (64 * w + (16 * a + 4 * e + r)) - 1), upd pe (64 * w + (16 * a + 4 * e + r)) (pe (64 * w + (16 * a + 4 * e + r)) - 1), vi, bc, bs, ec, ep, ed)) :
    wpX_drop post (nI W, ms, ca, pe, vi, bc, bs, ec, ep, ed) (nI w) (nI a) (nI e) (nI r) := by
  have hal := pt_aft_le pe w (16 * a + 4 * e + r) (pe (64 * w + (16 * a + 4 * e + r)) + (-1))
  unfold wpX_drop
  have hi2 : vp_in (nI (64 * w + (16 * a + 4 * e + r))) 256 := vp_in_nI (by omega) (by omega)
  have ec2 : (nI (64 * w + (16 * a + 4 * e + r))).toNatClampNeg = 64 * w + (16 * a + 4 * e + r) := nI_clamp (by omega)
  refine px_isW hW hw (br_f pt_10 (px_areR ha he hr (br_f pt_10 (px_place ⟨hi2, ?_⟩))))
  rw [ec2]
  refine br_c h2 (fun hc => px_pend (by omega) (px_gain (by omega) ?_))
  rw [pt_aft_e (by omega)]
  exact pk_le _ 16 (fun h => ⟨hi2, hi2, nm_e ⟨hi2, hi2, nm_e (h0 hc h)⟩⟩) (fun h => h6 hc h)
end
end
section
/-! X: advanceInput, broadcast, deliver -/
/-- how many entries worker w has with x at its point p and y at q -/
def pt_aft2 (pe : Nat → Int32) (w p q : Nat) (x y : Int32) : Nat := pt_cnt (upd (upd pe (64 * w + p) x) (64 * w + q) y) (64 * w) 64
theorem pt_aft2_le (pe : Nat → Int32) (w p q : Nat) (x y : Int32) : pt_aft2 pe w p q x y ≤ 64 := pt_cnt_le _ _ _
theorem pt_aft2_e {pe : Nat → Int32} {w p q : Nat} {d1 d2 : Int32} (hp : p < 64) (hq : q < 64) (hn : p ≠ q) :
    nI (pt_cnt pe (64 * w) 64) + ((nI (pt_nz (pe (64 * w + p) + d1)) - nI (pt_nz (pe (64 * w + p)))) + (nI (pt_nz (pe (64 * w + q) + d2)) - nI (pt_nz (pe (64 * w + q))))) = nI (pt_aft2 pe w p q (pe (64 * w + p) + d1) (pe (64 * w + q) + d2)) := by
  have h1 := pt_cnt_upd (f := pe) (b := 64 * w) (q := p) (x := pe (64 * w + p) + d1) (n := 64) hp
  have h2 := pt_cnt_upd (f := upd pe (64 * w + p) (pe (64 * w + p) + d1)) (b := 64 * w) (q := q) (x := pe (64 * w + q) + d2) (n := 64) hq
  rw [pk_un (show 64 * w + q ≠ 64 * w + p by omega)] at h2
  rw [← Int32.add_assoc, pt_gainE h1, pt_gainE h2]
  rfl
section
variable {ms ca pe vi bc bs ec ep ed : Nat → Int32} {W : Nat} {f0 : Int32}
theorem px_adv {post : Int32 → St2 → Prop} {w e : Nat} (hW : W ≤ 4) (hw : w < W) (he : e < 4)
    (h2 : ca (64 * w + 4 * e) = 0 → post (-2) (nI W, ms, ca, pe, vi, bc, bs, ec, ep, ed))
    (h5 : ¬ ca (64 * w + 4 * e) = 0 → e = 3 → post (-5) (nI W, ms, ca, pe, vi, bc, bs, ec, ep, ed))
    (h6 : ¬ ca (64 * w + 4 * e) = 0 → e < 3 → 16 < pt_aft2 pe w (4 * e) (4 * (e + 1)) (pe (64 * w + 4 * e) + (-1)) (pe (64 * w + 4 * (e + 1)) + 1) → post (-6) (nI W, ms, ca, pe, vi, bc, bs, ec, ep, ed))
    (h0 : ¬ ca (64 * w + 4 * e) = 0 → e < 3 → pt_aft2 pe w (4 * e) (4 * (e + 1)) (pe (64 * w + 4 * e) + (-1)) (pe (64 * w + 4 * (e + 1)) + 1) ≤ 16 →
      post 0 (nI W, ms, upd (upd ca (64 * w + 4 * e) (ca (64 * w + 4 * e) - 1)) (64 * w + 4 * (e + 1)) (upd ca (64 * w + 4 * e) (ca (64 * w + 4 * e) - 1) (64 * w + 4 * (e + 1)) + 1), upd (upd pe (64 * w + 4 * e) (pe (64 * w + 4 * e) - 1)) (64 * w + 4 * (e + 1)) (upd pe (64 * w + 4 * e) (pe (64 * w + 4 * e) - 1) (64 * w + 4 * (e + 1)) + 1), vi, bc, bs, ec, ep, ed)) :
    wpX_advanceInput post (nI W, ms, ca, pe, vi, bc, bs, ec, ep, ed) (nI w) (nI e) := by
  have hal := pt_aft2_le pe w (4 * e) (4 * (e + 1)) (pe (64 * w + 4 * e) + (-1)) (pe (64 * w + 4 * (e + 1)) + 1)
  unfold wpX_advanceInput
  have hi1 : vp_in (nI (64 * w + 4 * e)) 256 := vp_in_nI (by omega) (by omega)
  have ec1 : (nI (64 * w + 4 * e)).toNatClampNeg = 64 * w + 4 * e := nI_clamp (by omega)
  refine px_isW hW hw (br_f pt_10 (px_inR he (br_f pt_10 (px_place (a := 0) (c := 0) ?_))))
  rw [show 64 * w + (16 * 0 + 4 * e + 0) = 64 * w + 4 * e by omega]
  refine ⟨hi1, ?_⟩
  rw [ec1]
  refine br_c h2 (fun hc => ?_)
  refine pk_eq e 3 (fun z => h5 hc z) (fun z => ?_)
  rw [nI_1 e]
  refine px_place (a := 0) (c := 0) ?_
  rw [show 64 * w + (16 * 0 + 4 * (e + 1) + 0) = 64 * w + 4 * (e + 1) by omega]
  have hi2 : vp_in (nI (64 * w + 4 * (e + 1))) 256 := vp_in_nI (by omega) (by omega)
  have ec2 : (nI (64 * w + 4 * (e + 1))).toNatClampNeg = 64 * w + 4 * (e + 1) := nI_clamp (by omega)
  refine px_gain (by omega) (px_gain (by omega) (nm_e (px_pend (by omega) ?_)))
  rw [pt_aft2_e (by omega) (by omega) (by omega), ec2]
  exact pk_le _ 16 (fun h => ⟨hi1, hi1, nm_e ⟨hi1, hi1, nm_e ⟨hi2, hi2, nm_e ⟨hi2, hi2, nm_e (h0 hc (by omega) h)⟩⟩⟩⟩) (fun h => h6 hc (by omega) h)
theorem px_room {post : Int32 → Prop} {w n : Nat} (hW : W ≤ 4) (hw : w < W) (h1 : (∀ r, r < W → ec (4 * w + r) ≤ 32 - nI n) → post 1) (h0 : (∃ r, r < W ∧ ¬ ec (4 * w + r) ≤ 32 - nI n) → post 0) :
    wpX_haveChannelsRoom post (nI W, ms, ca, pe, vi, bc, bs, ec, ep, ed) (nI w) (nI n) := by
  refine loop_0 (σ := Unit) (fun k i _ => wX_haveChannelsRoom_2 post (nI w) (nI n) (nI W) ms ca pe vi bc bs ec ep ed k (nI i)) (fun i _ => ∀ r, r < i → ec (4 * w + r) ≤ 32 - nI n) W () (fun r hr => absurd hr (by omega)) ?_ ?_
  · intro k _ hs
    exact pk_le W W (fun _ => h1 hs) (fun z => absurd z (by omega))
  · intro k i _ hi hs hn
    refine pk_le W i (fun z => absurd z (by omega)) (fun _ => px_chan ⟨vp_in_nI (by omega) (by omega), ?_⟩)
    rw [nI_clamp (by omega)]
    by_cases z : ec (4 * w + i) ≤ 32 - nI n
    · refine br_t z (nm_r (nI_1 i) (hn () (fun r hr => ?_)))
      by_cases e : r = i
      · rw [e]; exact z
      · exact hs r (by omega)
    · exact br_f z (h0 ⟨i, hi, z⟩)
theorem px_append {post : St2 → Prop} {w r n len bl : Nat} (hw : w < 4) (hr : r < 4) (hn : pt_cnt pe (64 * w) 64 = n) (hlen : ec (4 * w + r) = nI len) (hbl : bc (4 * w + r) = nI bl) (hroom : len + n ≤ 32) (hb : bl < 32)
    (h : post (f0, ms, ca, pe, vi, upd bc (4 * w + r) (bc (4 * w + r) + 1), upd bs (32 * (4 * w + r) + (bc (4 * w + r)).toNatClampNeg) (nI n), upd ec (4 * w + r) (ec (4 * w + r) + nI n),
      pt_ep pe (64 * w) (32 * (4 * w + r) + (ec (4 * w + r)).toNatClampNeg) ep 64, pt_ed pe (64 * w) (32 * (4 * w + r) + (ec (4 * w + r)).toNatClampNeg) ed 64)) :
    wpX_appendPending post (f0, ms, ca, pe, vi, bc, bs, ec, ep, ed) (nI w) (nI r) (nI n) := by
  have e1 : (bc (4 * w + r)).toNatClampNeg = bl := by rw [hbl, nI_clamp (by omega)]
  have e2 : (ec (4 * w + r)).toNatClampNeg = len := by rw [hlen, nI_clamp (by omega)]
  rw [e1, e2] at h
  have hc : (nI (4 * w + r)).toNatClampNeg = 4 * w + r := nI_clamp (by omega)
  have hi : vp_in (nI (4 * w + r)) 16 := vp_in_nI (by omega) (by omega)
  unfold wpX_appendPending
  refine px_chan (nm_r (pt_c32 (4 * w + r)) ⟨hi, ?_⟩)
  rw [hc, hlen, nI_add]
  refine nm_e ?_
  refine loop_0 (fun k i (s : Int32 × (Nat → Int32) × (Nat → Int32)) => wX_appendPending_29 post (nI w) (nI n) (nI (4 * w + r)) (nI (32 * (4 * w + r))) f0 k s.1 (nI i) ms ca pe vi bc bs ec s.2.1 s.2.2)
    (fun i s => s = (nI (32 * (4 * w + r) + len + pt_cnt pe (64 * w) i), pt_ep pe (64 * w) (32 * (4 * w + r) + len) ep i, pt_ed pe (64 * w) (32 * (4 * w + r) + len) ed i)) 64 (nI (32 * (4 * w + r) + len), ep, ed) rfl ?_ ?_
  · rintro k s rfl
    refine pk_le 64 64 (fun _ => ⟨hi, ?_⟩) (fun z => absurd z (by omega))
    rw [hc, hbl, nI_add, nI_clamp (by omega)]
    refine ⟨vp_in_nI (by omega) (by omega), nm_e ⟨hi, hi, nm_e ⟨hi, hi, nm_e ?_⟩⟩⟩
    rw [hbl] at h
    exact h
  · rintro k i s hi' rfl hn'
    have hcl := pt_cnt_mono pe (64 * w) (show i + 1 ≤ 64 by omega)
    rw [pt_cnt_s, hn] at hcl
    refine pk_le 64 i (fun z => absurd z (by omega)) (fun _ => ⟨pk_in (64 * w + i) 256 (by omega) (pt_w64 w i), ?_⟩)
    rw [pt_w64, nI_clamp (show 64 * w + i < 2 ^ 31 by omega)]
    refine nm_e ?_
    by_cases z : pe (64 * w + i) = 0
    · refine br_t z (nm_r (nI_1 i) (hn' (_, _, _) ?_))
      rw [pt_cnt_s, pt_nz_0 z, pt_ep_z z, pt_ed_z z]
      rfl
    · rw [pt_nz_1 z] at hcl
      have hx : vp_in (nI (32 * (4 * w + r) + len + pt_cnt pe (64 * w) i)) 512 := vp_in_nI (by omega) (by omega)
      refine br_f z ⟨hx, nm_e ⟨hx, nm_e (nm_r (nI_1 _) (nm_r (nI_1 i) (hn' (_, _, _) ?_)))⟩⟩
      dsimp only
      rw [pt_cnt_s, pt_nz_1 z, pt_ep_p z, pt_ed_p z, nI_clamp (by omega)]
      rfl
theorem px_clear {post : St2 → Prop} {w : Nat} (hw : w < 4) (h : post (f0, ms, ca, pt_clr (64 * w) pe 64, vi, bc, bs, ec, ep, ed)) : wpX_clearPending post (f0, ms, ca, pe, vi, bc, bs, ec, ep, ed) (nI w) := by
  refine loop_0 (fun k i s => wX_clearPending_2 post (nI w) f0 k (nI i) ms ca s vi bc bs ec ep ed) (fun i s => s = pt_clr (64 * w) pe i) 64 pe rfl ?_ ?_
  · rintro k s rfl
    exact pk_le 64 64 (fun _ => h) (fun z => absurd z (by omega))
  · rintro k i s hi rfl hn
    refine pk_le 64 i (fun z => absurd z (by omega)) (fun _ => ⟨pk_in (64 * w + i) 256 (by omega) (pt_w64 w i), ?_⟩)
    rw [pt_w64, nI_clamp (by omega)]
    exact nm_e (nm_r (nI_1 i) (hn _ rfl))
theorem px_bloop {post : Int32 → St2 → Prop} {w n : Nat} (hW : W ≤ 4) (hw : w < W) (hn : pt_cnt pe (64 * w) 64 = n)
    (H : ∀ r, r < W → ∃ len bl, ec (4 * w + r) = nI len ∧ bc (4 * w + r) = nI bl ∧ len + n ≤ 32 ∧ bl < 32)
    (h : post (nI n) (nI W, ms, ca, pt_clr (64 * w) pe 64, vi, pt_bbc w bc W, pt_bbs w n bc bs W, pt_bec w n ec W, pt_bep pe w n ec ep W, pt_bed pe w n ec ed W)) :
    ∃ k, wX_broadcast_37 post (nI w) (nI n) k 0 (nI W) ms ca pe vi bc bs ec ep ed := by
  refine loop_0 (fun k i (s : (Nat → Int32) × (Nat → Int32) × (Nat → Int32) × (Nat → Int32) × (Nat → Int32)) => wX_broadcast_37 post (nI w) (nI n) k (nI i) (nI W) ms ca pe vi s.1 s.2.1 s.2.2.1 s.2.2.2.1 s.2.2.2.2)
    (fun i s => s = (pt_bbc w bc i, pt_bbs w n bc bs i, pt_bec w n ec i, pt_bep pe w n ec ep i, pt_bed pe w n ec ed i)) W (bc, bs, ec, ep, ed) rfl ?_ ?_
  · rintro k s rfl
    exact pk_le W W (fun _ => px_clear (by omega) h) (fun z => absurd z (by omega))
  · rintro k i s hi rfl hk
    obtain ⟨len, bl, q1, q2, q3, q4⟩ := H i hi
    refine pk_le W i (fun z => absurd z (by omega)) (fun _ => px_append (len := len) (bl := bl) (by omega) (by omega) hn ?_ ?_ q3 q4 ?_)
    · dsimp only
      rw [pt_bec_hi (by omega), q1]
    · dsimp only
      rw [pt_bbc_hi (by omega), q2]
    · exact nm_r (nI_1 i) (hk (_, _, _, _, _) rfl)
theorem pt_roomE {len n : Nat} (hl : len ≤ 32) (hn : n ≤ 64) : nI len ≤ 32 - nI n ↔ len + n ≤ 32 := by
  have e : (32 - nI n : Int32).toInt = 32 - (n : Int) := pk_sub_toInt (a := 32) (by decide) (by omega)
  rw [Int32.le_iff_toInt_le, e, nI_toInt (by omega)]
  omega
theorem px_broadcast {post : Int32 → St2 → Prop} {w n : Nat} (hW : W ≤ 4) (hw : w < W) (hn : pt_cnt pe (64 * w) 64 = n) (H : ∀ r, r < W → ∃ l, pt_ch l (4 * w + r) bc bs ec)
    (h8 : n = 0 → post (-8) (nI W, ms, ca, pe, vi, bc, bs, ec, ep, ed))
    (h7 : 1 ≤ n → (∃ r, r < W ∧ ¬ ec (4 * w + r) ≤ 32 - nI n) → post (-7) (nI W, ms, ca, pe, vi, bc, bs, ec, ep, ed))
    (h0 : 1 ≤ n → (∀ r, r < W → ec (4 * w + r) ≤ 32 - nI n) → post (nI n) (nI W, ms, ca, pt_clr (64 * w) pe 64, vi, pt_bbc w bc W, pt_bbs w n bc bs W, pt_bec w n ec W, pt_bep pe w n ec ep W, pt_bed pe w n ec ed W)) :
    wpX_broadcast post (nI W, ms, ca, pe, vi, bc, bs, ec, ep, ed) (nI w) := by
  have hle := pt_cnt_le pe (64 * w) 64
  unfold wpX_broadcast
  refine px_isW hW hw (br_f pt_10 (px_pend (by omega) ?_))
  rw [hn] at hle ⊢
  refine pk_eq n 0 (fun z => h8 z) (fun z => px_room hW hw (fun hr => br_f pt_10 ?_) (fun hr => br_t rfl (h7 (by omega) hr)))
  refine px_bloop hW hw hn (fun r hr' => ?_) (h0 (by omega) hr)
  obtain ⟨l, hl⟩ := H r hr'
  have hq := hr r hr'
  have hs := hl.2.1
  rw [hl.2.2.2.1, pt_roomE hs hle] at hq
  have := pt_len_sum hl.1
  exact ⟨pt_sum l, l.length, hl.2.2.2.1, hl.2.2.1, hq, by omega⟩
theorem px_apply {post : St2 → Prop} {c r a : Nat} (hc : c < 16) (hr : r < 4) (ha : a ≤ 32) (he : ∀ i, ∃ p, p < 64 ∧ ep i = nI p) (h : post (f0, ms, ca, pe, pt_vw ep ed (32 * c) (64 * r) vi a, bc, bs, ec, ep, ed)) :
    wpX_applyOldest post (f0, ms, ca, pe, vi, bc, bs, ec, ep, ed) (nI c) (nI r) (nI a) := by
  unfold wpX_applyOldest
  refine nm_r (pt_c32 c) ?_
  refine loop_0 (fun k i s => wX_applyOldest_9 post (nI r) (nI a) (nI (32 * c)) f0 k (nI i) ms ca pe s bc bs ec ep ed) (fun i s => s = pt_vw ep ed (32 * c) (64 * r) vi i) a vi rfl ?_ ?_
  · rintro k s rfl
    exact pk_le a a (fun _ => h) (fun z => absurd z (by omega))
  · rintro k i s hi rfl hn
    obtain ⟨p, hp, e⟩ := he (32 * c + i)
    refine pk_le a i (fun z => absurd z (by omega)) (fun _ => ?_)
    rw [nI_add, nI_clamp (show 32 * c + i < 2 ^ 31 by omega), e, pt_w64, nI_clamp (show 64 * r + p < 2 ^ 31 by omega)]
    have hi1 : vp_in (nI (32 * c + i)) 512 := vp_in_nI (by omega) (by omega)
    have hi2 : vp_in (nI (64 * r + p)) 256 := vp_in_nI (by omega) (by omega)
    refine ⟨hi1, hi2, hi1, hi2, nm_e (nm_r (nI_1 i) (hn _ ?_))⟩
    show _ = upd (pt_vw ep ed (32 * c) (64 * r) vi i) (64 * r + (ep (32 * c + i)).toNatClampNeg) (pt_vw ep ed (32 * c) (64 * r) vi i (64 * r + (ep (32 * c + i)).toNatClampNeg) + ed (32 * c + i))
    rw [e, nI_clamp (show p < 2 ^ 31 by omega)]
theorem px_remE {post : St2 → Prop} {c a b : Nat} (hc : c < 16) (hab : a + b ≤ 32) (hec : ec c = nI (a + b)) (h : post (f0, ms, ca, pe, vi, bc, bs, upd ec c (nI b), pt_sh a (32 * c) ep b, pt_sh a (32 * c) ed b)) :
    wpX_removeOldestEntries post (f0, ms, ca, pe, vi, bc, bs, ec, ep, ed) (nI c) (nI a) := by
  unfold wpX_removeOldestEntries
  have hcc : (nI c).toNatClampNeg = c := nI_clamp (by omega)
  have hi : vp_in (nI c) 16 := vp_in_nI hc (by omega)
  refine nm_r (pt_c32 c) ⟨hi, ?_⟩
  rw [hcc, hec, pk_sub (by omega), show a + b - a = b by omega]
  refine nm_e ?_
  refine loop_0 (fun k i (s : (Nat → Int32) × (Nat → Int32)) => wX_removeOldestEntries_18 post (nI c) (nI a) (nI (32 * c)) (nI b) f0 k (nI i) ms ca pe vi bc bs ec s.1 s.2) (fun i s => s = (pt_sh a (32 * c) ep i, pt_sh a (32 * c) ed i)) b (ep, ed) rfl ?_ ?_
  · rintro k s rfl
    refine pk_le b b (fun _ => ⟨hi, ?_⟩) (fun z => absurd z (by omega))
    rw [hcc]
    exact nm_e h
  · rintro k i s hi' rfl hn
    refine pk_le b i (fun z => absurd z (by omega)) (fun _ => ?_)
    rw [nI_add, nI_add, nI_clamp (show 32 * c + i + a < 2 ^ 31 by omega), nI_clamp (show 32 * c + i < 2 ^ 31 by omega)]
    have hi1 : vp_in (nI (32 * c + i + a)) 512 := vp_in_nI (by omega) (by omega)
    have hi2 : vp_in (nI (32 * c + i)) 512 := vp_in_nI (by omega) (by omega)
    exact ⟨hi1, hi2, nm_e ⟨hi1, hi2, nm_e (nm_r (nI_1 i) (hn (_, _) rfl))⟩⟩
theorem px_remS {post : St2 → Prop} {c b : Nat} (hc : c < 16) (hb : b < 32) (hbc : bc c = nI (b + 1)) (h : post (f0, ms, ca, pe, vi, upd bc c (nI b), pt_sh 1 (32 * c) bs b, ec, ep, ed)) :
    wpX_removeOldestSize post (f0, ms, ca, pe, vi, bc, bs, ec, ep, ed) (nI c) := by
  unfold wpX_removeOldestSize
  have hcc : (nI c).toNatClampNeg = c := nI_clamp (by omega)
  have hi : vp_in (nI c) 16 := vp_in_nI hc (by omega)
  refine nm_r (pt_c32 c) ⟨hi, ?_⟩
  rw [hcc, hbc, nI_pred]
  refine nm_e ?_
  refine loop_0 (fun k i s => wX_removeOldestSize_17 post (nI c) (nI (32 * c)) (nI b) f0 k (nI i) ms ca pe vi bc s ec ep ed) (fun i s => s = pt_sh 1 (32 * c) bs i) b bs rfl ?_ ?_
  · rintro k s rfl
    refine pk_le b b (fun _ => ⟨hi, ?_⟩) (fun z => absurd z (by omega))
    rw [hcc]
    exact nm_e h
  · rintro k i s hi' rfl hn
    refine pk_le b i (fun z => absurd z (by omega)) (fun _ => ?_)
    rw [nI_add, nI_1, nI_clamp (show 32 * c + i + 1 < 2 ^ 31 by omega), nI_clamp (show 32 * c + i < 2 ^ 31 by omega)]
    have hi1 : vp_in (nI (32 * c + i + 1)) 512 := vp_in_nI (by omega) (by omega)
    have hi2 : vp_in (nI (32 * c + i)) 512 := vp_in_nI (by omega) (by omega)
    exact ⟨hi1, hi2, nm_e (nm_r (nI_1 i) (hn _ rfl))⟩
theorem px_deliver0 {post : Int32 → St2 → Prop} {s r : Nat} (hW : W ≤ 4) (hs : s < W) (hr : r < W) (h0 : bc (4 * s + r) = 0) (h : post (-8) (nI W, ms, ca, pe, vi, bc, bs, ec, ep, ed)) :
    wpX_deliver post (nI W, ms, ca, pe, vi, bc, bs, ec, ep, ed) (nI s) (nI r) := by
  unfold wpX_deliver
  refine px_isW hW hs (br_f pt_10 (px_isW hW hr (br_f pt_10 (px_chan ⟨vp_in_nI (by omega) (by omega), ?_⟩))))
  rw [nI_clamp (by omega)]
  exact br_t h0 h
theorem px_deliver {post : Int32 → St2 → Prop} {s r a : Nat} {l : List Nat} (hW : W ≤ 4) (hs : s < W) (hr : r < W) (he : ∀ i, ∃ p, p < 64 ∧ ep i = nI p) (hl : pt_ch (a :: l) (4 * s + r) bc bs ec)
    (h : post (nI a) (nI W, ms, ca, pe, pt_vw ep ed (32 * (4 * s + r)) (64 * r) vi a, upd bc (4 * s + r) (nI l.length), pt_sh 1 (32 * (4 * s + r)) bs l.length, upd ec (4 * s + r) (nI (pt_sum l)), pt_sh a (32 * (4 * s + r)) ep (pt_sum l), pt_sh a (32 * (4 * s + r)) ed (pt_sum l))) :
    wpX_deliver post (nI W, ms, ca, pe, vi, bc, bs, ec, ep, ed) (nI s) (nI r) := by
  have hsum : a + pt_sum l ≤ 32 := hl.2.1
  have hec : ec (4 * s + r) = nI (a + pt_sum l) := hl.2.2.2.1
  have hbc : bc (4 * s + r) = nI (l.length + 1) := hl.2.2.1
  have hbs : bs (32 * (4 * s + r)) = nI a := hl.2.2.2.2.1
  have hlen := pt_len_sum (pt_all1_c hl.1).2
  have ha1 := (pt_all1_c hl.1).1
  unfold wpX_deliver
  refine px_isW hW hs (br_f pt_10 (px_isW hW hr (br_f pt_10 (px_chan ⟨vp_in_nI (by omega) (by omega), ?_⟩))))
  rw [nI_clamp (by omega)]
  refine br_f (by rw [hbc]; exact nI_ne0 (by omega) (by omega)) ?_
  rw [pt_c32, nI_clamp (by omega), hbs]
  refine ⟨vp_in_nI (by omega) (by omega), nm_e ?_⟩
  refine px_apply (by omega) (by omega) (by omega) he ?_
  refine px_remE (by omega) hsum hec ?_
  exact px_remS (by omega) (by omega) hbc h
end
end
section
/-! X: the calls that only ask -/
def pt_KI (a b : Nat) : Int32 := if a = b then 0 else if a = 3 then -1 else if b = 0 then -1 else if a = 2 then (if b = 1 then 1 else 0) else 0
theorem pt_KI_K : ∀ a, a < 4 → ∀ b, b < 4 → (pt_K a b = 9 ∧ pt_KI a b = -1) ∨ (pt_K a b ≤ 1 ∧ pt_KI a b = nI (pt_K a b)) := by decide +kernel
theorem pt_nIm1 {n : Nat} (h : n < 2 ^ 31) : ¬ nI n = -1 := by
  intro e
  have := nI_pos (n := n) h
  rw [e] at this
  exact this (by decide)
theorem pt_d16 {p : Nat} (hp : p < 64) : nI p / 16 = nI (p / 16) := pk_div (d := 16) (by omega) (by decide) (by decide)
theorem pt_d4 {p : Nat} (hp : p < 64) : nI p / 4 = nI (p / 4) := pk_div (d := 4) (by omega) (by decide) (by decide)
theorem pt_m16 {p : Nat} (hp : p < 64) : nI p - nI p / 16 * 16 = nI (p % 16) := pk_rem (d := 16) (by omega) (by decide) (by decide)
theorem pt_m4 {p : Nat} (hp : p < 64) : nI p - nI p / 4 * 4 = nI (p % 4) := pk_rem (d := 4) (by omega) (by decide) (by decide)
theorem pt_n16 : ¬ (16 : Int32) = 0 := by decide
theorem pt_n4 : ¬ (4 : Int32) = 0 := by decide
section
variable {ms ca pe vi bc bs ec ep ed : Nat → Int32} {W : Nat} {f0 : Int32}
theorem px_lf {post : Int32 → Prop} {a b : Nat} (ha : a < 4) (hb : b < 4) (h : post (pt_KI a b)) : wpX_leastFeedbacks post () (nI a) (nI b) := by
  unfold pt_KI at h
  refine pk_eq a b (fun z => ?_) (fun z => pk_eq a 3 (fun y => ?_) (fun y => pk_eq b 0 (fun x => ?_) (fun x => pk_eq a 2 (fun v => pk_eq b 1 (fun t => ?_) (fun t => ?_)) (fun v => ?_))))
  · rw [if_pos z] at h; exact h
  · rw [if_neg z, if_pos y] at h; exact h
  · rw [if_neg z, if_neg y, if_pos x] at h; exact h
  · rw [if_neg z, if_neg y, if_neg x, if_pos v, if_pos t] at h; exact h
  · rw [if_neg z, if_neg y, if_neg x, if_pos v, if_neg t] at h; exact h
  · rw [if_neg z, if_neg y, if_neg x, if_neg v] at h; exact h
theorem px_cr {post : Int32 → Prop} {p o e r : Nat} (hp : p < 64) (ho : o < 4) (he : e < 4) (hr : r < 4) (h1 : pt_cr p o e r → post 1) (h0 : ¬ pt_cr p o e r → post 0) : wpX_couldResultIn post () (nI p) (nI o) (nI e) (nI r) := by
  unfold wpX_couldResultIn
  rw [pt_m16 hp, pt_m4 hp, pt_d16 hp, show nI (p % 16) / 4 = nI (p % 16 / 4) from pt_d4 (by omega)]
  refine ⟨pt_n16, px_lf (by omega) ho ⟨pt_n16, pt_n4, nm_e ⟨pt_n4, nm_e ?_⟩⟩⟩
  rcases pt_KI_K (p / 16) (by omega) o ho with ⟨k1, k2⟩ | ⟨k1, k2⟩
  · exact br_t k2 (h0 (fun t => by have := t.2; omega))
  · rw [k2, nI_add]
    refine br_f (pt_nIm1 (by omega)) (pk_lt e (p % 16 / 4) (fun z => h0 (fun t => by have := t.1; omega)) (fun z => pk_lt r (p % 4 + pt_K (p / 16) o) (fun y => h0 (fun t => by have := t.2; omega)) (fun y => h1 ⟨by omega, by omega⟩)))
theorem px_canReach {post : Int32 → Prop} {w o e r : Nat} (hW : W ≤ 4) (hw : w < W) (ho : o < 4) (he : e < 4) (hr : r < 4) (h1 : (∃ p, p < 64 ∧ ¬ vi (64 * w + p) ≤ 0 ∧ pt_cr p o e r) → post 1) (h0 : (∀ p, p < 64 → ¬ vi (64 * w + p) ≤ 0 → ¬ pt_cr p o e r) → post 0) :
    wpX_canReach post (nI W, ms, ca, pe, vi, bc, bs, ec, ep, ed) (nI w) (nI o) (nI e) (nI r) := by
  unfold wpX_canReach
  refine px_isW hW hw (br_f pt_10 (px_areR ho he hr (br_f pt_10 ?_)))
  refine loop_0 (σ := Unit) (fun k i _ => wX_canReach_23 post (nI w) (nI o) (nI e) (nI r) (nI W) ms ca pe vi bc bs ec ep ed k (nI i)) (fun i _ => ∀ p, p < i → ¬ vi (64 * w + p) ≤ 0 → ¬ pt_cr p o e r) 64 () (fun p hp => absurd hp (by omega)) ?_ ?_
  · intro k _ hs
    exact pk_le 64 64 (fun _ => h0 hs) (fun z => absurd z (by omega))
  · intro k i _ hi hs hn
    refine pk_le 64 i (fun z => absurd z (by omega)) (fun _ => ⟨pk_in (64 * w + i) 256 (by omega) (pt_w64 w i), ?_⟩)
    rw [pt_w64, nI_clamp (by omega)]
    have step : (¬ vi (64 * w + i) ≤ 0 → ¬ pt_cr i o e r) → ∀ p, p < i + 1 → ¬ vi (64 * w + p) ≤ 0 → ¬ pt_cr p o e r := by
      intro hx p hp
      by_cases e : p = i
      · rw [e]; exact hx
      · exact hs p (by omega)
    refine br_c (fun z => nm_r (nI_1 i) (hn () (step (fun g => absurd z g)))) (fun z => px_cr hi ho he hr (fun g => br_f pt_10 (h1 ⟨i, hi, z, g⟩)) (fun g => br_t rfl (nm_r (nI_1 i) (hn () (step (fun _ => g))))))
theorem px_occ {post : Int64 → Prop} {p k : Nat} (hW : W ≤ 4) (hp : p < 64) (hk : k < 2 ^ 20) (hm : ∀ i, ∃ a, a ≤ k ∧ ms i = nI a) (hc : ∀ i, ∃ a, a ≤ k ∧ ca i = nI a) (h : post (lN (pt_occ ms ca p W))) :
    wpX_occurrences post (nI W, ms, ca, pe, vi, bc, bs, ec, ep, ed) (nI p) := by
  unfold wpX_occurrences
  obtain ⟨a, ha, ea⟩ := hm p
  refine ⟨vp_in_nI hp (by omega), ?_⟩
  rw [nI_clamp (show p < 2 ^ 31 by omega)]
  refine nm_r (show (ms p).toInt64 = lN (pt_occ ms ca p 0) from ?_) ?_
  · show _ = lN ((ms p).toNatClampNeg)
    rw [ea, nI_l (by omega), nI_clamp (by omega)]
  · refine loop_0 (fun k i s => wX_occurrences_11 post (nI p) (nI W) ms ca pe vi bc bs ec ep ed k s (nI i)) (fun i s => s = lN (pt_occ ms ca p i)) W _ rfl ?_ ?_
    · rintro k s rfl
      exact pk_le W W (fun _ => h) (fun z => absurd z (by omega))
    · rintro k i s hi rfl hn
      obtain ⟨b, hb, eb⟩ := hc (64 * i + p)
      refine pk_le W i (fun z => absurd z (by omega)) (fun _ => ⟨pk_in (64 * i + p) 256 (by omega) (pt_w64 i p), ?_⟩)
      rw [pt_w64, nI_clamp (show 64 * i + p < 2 ^ 31 by omega)]
      refine nm_e (nm_r (nI_1 i) (hn _ ?_))
      show _ = lN (pt_occ ms ca p i + (ca (64 * i + p)).toNatClampNeg)
      rw [eb, nI_l (by omega), nI_clamp (by omega), lN_add]
theorem px_couldArrive {post : Int32 → Prop} {o e r k : Nat} (hW : W ≤ 4) (ho : o < 4) (he : e < 4) (hr : r < 4) (hk : k < 2 ^ 20) (hm : ∀ i, ∃ a, a ≤ k ∧ ms i = nI a) (hc : ∀ i, ∃ a, a ≤ k ∧ ca i = nI a)
    (h1 : (∃ p, p < 64 ∧ 0 < pt_occ ms ca p W ∧ pt_cr p o e r) → post 1) (h0 : (∀ p, p < 64 → 0 < pt_occ ms ca p W → ¬ pt_cr p o e r) → post 0) :
    wpX_couldArrive post (nI W, ms, ca, pe, vi, bc, bs, ec, ep, ed) (nI o) (nI e) (nI r) := by
  unfold wpX_couldArrive
  refine px_areR ho he hr (br_f pt_10 ?_)
  refine loop_0 (σ := Unit) (fun k i _ => wX_couldArrive_14 post (nI o) (nI e) (nI r) (nI W) ms ca pe vi bc bs ec ep ed k (nI i)) (fun i _ => ∀ p, p < i → 0 < pt_occ ms ca p W → ¬ pt_cr p o e r) 64 () (fun p hp => absurd hp (by omega)) ?_ ?_
  · intro k _ hs
    exact pk_le 64 64 (fun _ => h0 hs) (fun z => absurd z (by omega))
  · intro k' i _ hi hs hn
    have step : (0 < pt_occ ms ca i W → ¬ pt_cr i o e r) → ∀ p, p < i + 1 → 0 < pt_occ ms ca p W → ¬ pt_cr p o e r := by
      intro hx p hp
      by_cases e : p = i
      · rw [e]; exact hx
      · exact hs p (by omega)
    have hle := pt_occ_le (p := i) hk hm hc W
    have hle2 : k * (W + 1) ≤ k * 5 := Nat.mul_le_mul_left k (by omega)
    refine pk_le 64 i (fun z => absurd z (by omega)) (fun _ => px_occ hW hi hk hm hc ?_)
    have hz : lN (pt_occ ms ca i W) ≤ 0 ↔ pt_occ ms ca i W ≤ 0 := lN_le (b := 0) (by omega) (by decide)
    refine br_c (fun z => nm_r (nI_1 i) (hn () (step (fun g => absurd (hz.mp z) (by omega))))) (fun z => ?_)
    have hz' : 0 < pt_occ ms ca i W := by
      rcases Nat.eq_zero_or_pos (pt_occ ms ca i W) with q | q
      · exact absurd (hz.mpr (by omega)) z
      · exact q
    exact px_cr hi ho he hr (fun g => br_f pt_10 (h1 ⟨i, hi, hz', g⟩)) (fun g => br_t rfl (nm_r (nI_1 i) (hn () (step (fun _ => g)))))
/-- the least round so far, at operator a and round q of the scan -/
def pt_inv (f : Nat → Int32) (w o e a q m : Nat) : Prop := m ≤ 5 ∧ (m < 5 → pt_M f w o e m) ∧ ∀ a' q', a' < 4 → q' < 4 → (a' < a ∨ (a' = a ∧ q' < q)) → 0 < f (64 * w + (16 * a' + 4 * e + q')) → m ≤ q' + pt_K a' o
theorem pt_inv_keep {f : Nat → Int32} {w o e a q m : Nat} (h : pt_inv f w o e a q m) (hx : 0 < f (64 * w + (16 * a + 4 * e + q)) → m ≤ q + pt_K a o) : pt_inv f w o e a (q + 1) m := by
  obtain ⟨h1, h2, h3⟩ := h
  refine ⟨h1, h2, fun a' q' ha hq hc hv => ?_⟩
  by_cases z : a' = a ∧ q' = q
  · rw [z.1, z.2] at hv ⊢
    exact hx hv
  · exact h3 a' q' ha hq (by omega) hv
theorem pt_inv_next {f : Nat → Int32} {w o e a m : Nat} (h : pt_inv f w o e a 4 m) : pt_inv f w o e (a + 1) 0 m := by
  obtain ⟨h1, h2, h3⟩ := h
  exact ⟨h1, h2, fun a' q' ha hq hc hv => h3 a' q' ha hq (by omega) hv⟩
theorem pt_inv_end {f : Nat → Int32} {w o e m : Nat} (h : pt_inv f w o e 4 0 m) : m = pt_L f w o e := by
  obtain ⟨h1, h2, h3⟩ := h
  refine pt_lst_un ⟨h1, h2, fun r hr hM => ?_⟩ (pt_L_s f w o e)
  obtain ⟨a, q, ha, hq, e1, hv⟩ := hM
  have := h3 a q ha hq (by omega) hv
  omega
theorem px_lrIn {post : Int32 → Prop} {J6 : Int32 → Int32 → Prop} {w o e a m : Nat} (hw : w < 4) (ho : o < 4) (he : e < 4) (ha : a < 4) (hJ : ∀ m, pt_inv vi w o e (a + 1) 0 m → J6 (nI m) (nI (a + 1))) (hm : pt_inv vi w o e a 0 m) :
    ∃ k, wX_leastRound_23 post J6 (nI w) (nI o) (nI e) (nI a) (pt_KI a o) f0 ms ca pe vi bc bs ec ep ed k (nI m) 0 := by
  refine loop_0 (fun k i s => wX_leastRound_23 post J6 (nI w) (nI o) (nI e) (nI a) (pt_KI a o) f0 ms ca pe vi bc bs ec ep ed k s (nI i)) (fun i s => ∃ m, s = nI m ∧ pt_inv vi w o e a i m) 4 (nI m) ⟨m, rfl, hm⟩ ?_ ?_
  · rintro k s ⟨m, rfl, hi⟩
    exact pk_lt 3 4 (fun _ => nm_r (nI_1 a) (hJ m (pt_inv_next hi))) (fun z => absurd z (by omega))
  · rintro k i s hi ⟨m, rfl, hv⟩ hn
    have hm5 := hv.1
    have skip : (0 < vi (64 * w + (16 * a + 4 * e + i)) → m ≤ i + pt_K a o) → ∀ y, y = nI i + 1 → wX_leastRound_23 post J6 (nI w) (nI o) (nI e) (nI a) (pt_KI a o) f0 ms ca pe vi bc bs ec ep ed k (nI m) y :=
      fun hx => nm_r (nI_1 i) (hn _ ⟨m, rfl, pt_inv_keep hv hx⟩)
    refine pk_lt 3 i (fun z => absurd z (by omega)) (fun _ => ?_)
    unfold wX_leastRound_56 wX_leastRound_57
    rcases pt_KI_K a ha o ho with ⟨k1, k2⟩ | ⟨k1, k2⟩
    · exact br_t k2 (br_t rfl (skip (fun _ => by omega)))
    · refine br_f (by rw [k2]; exact pt_nIm1 (by omega)) (px_place ⟨vp_in_nI (by omega) (by omega), ?_⟩)
      rw [nI_clamp (show 64 * w + (16 * a + 4 * e + i) < 2 ^ 31 by omega)]
      refine br_c (fun z => br_t rfl (skip (fun g => absurd z (Int32.not_le.mpr g)))) (fun z => br_f pt_10 ?_)
      have ek : nI i + pt_KI a o = nI (i + pt_K a o) := by rw [k2, nI_add]
      refine pk_le m (i + pt_K a o) (fun y => skip (fun _ => y)) (fun y => ?_) rfl ek
      refine nm_r ek (nm_r (nI_1 i) (hn _ ⟨i + pt_K a o, rfl, ?_⟩))
      obtain ⟨g1, g2, g3⟩ := hv
      refine ⟨by omega, fun _ => ⟨a, i, ha, hi, rfl, Int32.not_le.mp z⟩, fun a' q' ha' hq' hc hv' => ?_⟩
      by_cases x : a' = a ∧ q' = i
      · rw [x.1, x.2]; omega
      · have := g3 a' q' ha' hq' (by omega) hv'
        omega
theorem px_lr {post : Int32 → Prop} {w o e : Nat} (hw : w < 4) (ho : o < 4) (he : e < 4) (h : post (nI (pt_L vi w o e))) : wpX_leastRound post (f0, ms, ca, pe, vi, bc, bs, ec, ep, ed) (nI w) (nI o) (nI e) := by
  refine loop_0 (fun k i s => wX_leastRound_6 post (nI w) (nI o) (nI e) f0 ms ca pe vi bc bs ec ep ed k s (nI i)) (fun i s => ∃ m, s = nI m ∧ pt_inv vi w o e i 0 m) 4 5 ⟨5, rfl, by omega, fun z => absurd z (by omega), fun a' q' _ _ hc => absurd hc (by omega)⟩ ?_ ?_
  · rintro k s ⟨m, rfl, hi⟩
    refine pk_lt 3 4 (fun _ => ?_) (fun z => absurd z (by omega))
    rw [pt_inv_end hi]
    exact h
  · rintro k i s hi ⟨m, rfl, hv⟩ hn
    exact pk_lt 3 i (fun z => absurd z (by omega)) (fun _ => px_lf hi ho (px_lrIn hw ho he hi (fun m' hm' => hn _ ⟨m', rfl, hm'⟩) hv))
theorem px_fsize {post : Int32 → Prop} {w o : Nat} (hW : W ≤ 4) (hw : w < W) (ho : o < 4) (h : post (nI (pt_sz (pt_L vi w o) 4))) : wpX_frontierSize post (nI W, ms, ca, pe, vi, bc, bs, ec, ep, ed) (nI w) (nI o) := by
  unfold wpX_frontierSize
  refine px_isW hW hw (br_f pt_10 (px_inR ho (br_f pt_10 ?_)))
  refine loop_0 (fun k i (s : Int32 × Int32) => wX_frontierSize_25 post (nI w) (nI o) (nI W) ms ca pe vi bc bs ec ep ed k s.1 s.2 (nI i)) (fun i s => s = (nI (pt_sz (pt_L vi w o) i), nI (pt_low (pt_L vi w o) i))) 4 (0, 5) rfl ?_ ?_
  · rintro k s rfl
    exact pk_lt 3 4 (fun _ => h) (fun z => absurd z (by omega))
  · rintro k i s hi rfl hn
    have hl := pt_low_le (pt_L vi w o) i
    have hL := (pt_L_s vi w o i).1
    refine pk_lt 3 i (fun z => absurd z (by omega)) (fun _ => px_lr (by omega) ho hi ?_)
    refine pk_le (pt_low (pt_L vi w o) i) (pt_L vi w o i) (fun z => nm_r (nI_1 i) (hn (_, _) ?_)) (fun z => nm_r (nI_1 _) (nm_r (nI_1 i) (hn (_, _) ?_)))
    · rw [pt_sz_f (by omega), pt_low_f (by omega)]
    · rw [pt_sz_t z, pt_low_t z]
      rfl
theorem px_capC {post : Int32 → Prop} {w a e r : Nat} (hW : W ≤ 4) (hw : w < W) (ha : a < 4) (he : e < 4) (hr : r < 4) (h : post (ca (64 * w + (16 * a + 4 * e + r)))) : wpX_capabilities post (nI W, ms, ca, pe, vi, bc, bs, ec, ep, ed) (nI w) (nI a) (nI e) (nI r) := by
  unfold wpX_capabilities
  refine px_isW hW hw (br_f pt_10 (px_areR ha he hr (br_f pt_10 (px_place ⟨vp_in_nI (by omega) (by omega), ?_⟩))))
  rw [nI_clamp (by omega)]
  exact h
theorem px_msgC {post : Int32 → Prop} {a e r : Nat} (ha : a < 4) (he : e < 4) (hr : r < 4) (h : post (ms (16 * a + 4 * e + r))) : wpX_messages post (f0, ms, ca, pe, vi, bc, bs, ec, ep, ed) (nI a) (nI e) (nI r) := by
  unfold wpX_messages
  refine px_areR ha he hr (br_f pt_10 (px_point ⟨vp_in_nI (by omega) (by omega), ?_⟩))
  rw [nI_clamp (by omega)]
  exact h
theorem px_quiet {post : Int32 → Prop} (hW : W ≤ 4) (h1 : (∀ w, w < W → pt_cnt pe (64 * w) 64 = 0) → (∀ c, c < 16 → bc c = 0) → post 1) (h0 : ((∃ w, w < W ∧ pt_cnt pe (64 * w) 64 ≠ 0) ∨ ∃ c, c < 16 ∧ ¬ bc c = 0) → post 0) :
    wpX_isQuiet post (nI W, ms, ca, pe, vi, bc, bs, ec, ep, ed) := by
  refine loop_0 (σ := Unit) (fun k i _ => wX_isQuiet_2 post (nI W) ms ca pe vi bc bs ec ep ed k (nI i)) (fun i _ => ∀ w, w < i → pt_cnt pe (64 * w) 64 = 0) W () (fun w h => absurd h (by omega)) ?_ ?_
  · intro k _ hs
    refine pk_le W W (fun _ => ?_) (fun z => absurd z (by omega))
    refine loop_0 (σ := Unit) (fun k i _ => wX_isQuiet_28 post (nI W) ms ca pe vi bc bs ec ep ed k (nI i)) (fun i _ => ∀ c, c < i → bc c = 0) 16 () (fun w h => absurd h (by omega)) ?_ ?_
    · intro k _ hs'
      exact pk_le 16 16 (fun _ => h1 hs hs') (fun z => absurd z (by omega))
    · intro k i _ hi hs' hn
      refine pk_le 16 i (fun z => absurd z (by omega)) (fun _ => ⟨vp_in_nI hi (by omega), ?_⟩)
      rw [nI_clamp (by omega)]
      refine br_c (fun z => nm_r (nI_1 i) (hn () (fun c hc => ?_))) (fun z => h0 (Or.inr ⟨i, hi, z⟩))
      by_cases e : c = i
      · rw [e]; exact z
      · exact hs' c (by omega)
  · intro k i _ hi hs hn
    have hle := pt_cnt_le pe (64 * i) 64
    refine pk_le W i (fun z => absurd z (by omega)) (fun _ => px_pend (by omega) ?_)
    refine pk_eq (pt_cnt pe (64 * i) 64) 0 (fun z => nm_r (nI_1 i) (hn () (fun w hw => ?_))) (fun z => h0 (Or.inl ⟨i, hi, z⟩))
    by_cases e : w = i
    · rw [e]; exact z
    · exact hs w (by omega)
end
end
section
/-! the order of the points, and what keeps a view safe -/
def pq_le (p q : Nat) : Prop := pt_cr p (q / 16) (q / 4 % 4) (q % 4)
def pq_rk (p : Nat) : Nat := 4 * (p / 4 % 4 + p % 4) + p / 16
theorem pq_Ktri : ∀ a, a < 4 → ∀ b, b < 4 → ∀ c, c < 4 → pt_K a c ≤ pt_K a b + pt_K b c := by decide +kernel
theorem pq_Krk : ∀ a, a < 4 → ∀ b, b < 4 → pt_K a b < 9 → a ≤ b + 3 * pt_K a b ∧ (a = b → pt_K a b = 0) := by decide +kernel
theorem pq_K00 : ∀ a, a < 4 → pt_K a a = 0 := by decide +kernel
theorem pq_refl (p : Nat) (hp : p < 64) : pq_le p p := by
  refine ⟨Nat.le_refl _, ?_⟩
  rw [pq_K00 _ (by omega)]
  omega
theorem pq_trans {p q r : Nat} (hp : p < 64) (hq : q < 64) (hr : r < 64) (h1 : pq_le p q) (h2 : pq_le q r) : pq_le p r := by
  obtain ⟨a1, a2⟩ := h1
  obtain ⟨b1, b2⟩ := h2
  have t := pq_Ktri (p / 16) (by omega) (q / 16) (by omega) (r / 16) (by omega)
  refine ⟨by omega, ?_⟩
  omega
theorem pq_lt_rk {p q : Nat} (hp : p < 64) (hq : q < 64) (h : pq_le p q) (hn : p ≠ q) : pq_rk p < pq_rk q := by
  obtain ⟨a1, a2⟩ := h
  obtain ⟨t1, t2⟩ := pq_Krk (p / 16) (by omega) (q / 16) (by omega) (by omega)
  have hp1 : 16 * (p / 16) + 4 * (p / 4 % 4) + p % 4 = p := by omega
  have hq1 : 16 * (q / 16) + 4 * (q / 4 % 4) + q % 4 = q := by omega
  have hp2 : p % 4 < 4 ∧ p / 4 % 4 < 4 := by omega
  have hq2 : q % 4 < 4 ∧ q / 4 % 4 < 4 := by omega
  show 4 * (p / 4 % 4 + p % 4) + p / 16 < 4 * (q / 4 % 4 + q % 4) + q / 16
  generalize pt_K (p / 16) (q / 16) = K at *
  generalize p / 16 = pa at *
  generalize p / 4 % 4 = pb at *
  generalize p % 4 = pc at *
  generalize q / 16 = qa at *
  generalize q / 4 % 4 = qb at *
  generalize q % 4 = qc at *
  by_cases e : pa = qa
  · have := t2 e
    omega
  · omega
/-- strictly below -/
def pq_lt (p q : Nat) : Prop := pq_le p q ∧ p ≠ q
theorem pq_lt_trans {p q r : Nat} (hp : p < 64) (hq : q < 64) (hr : r < 64) (h1 : pq_lt p q) (h2 : pq_lt q r) : pq_lt p r := by
  refine ⟨pq_trans hp hq hr h1.1 h2.1, fun e => ?_⟩
  have k1 := pq_lt_rk hp hq h1.1 h1.2
  have k2 := pq_lt_rk hq hr h2.1 h2.2
  rw [e] at k1
  omega
/-- D is within j, and each point where it is above 0 has one strictly below it where it is below 0 or a capability is held -/
def pq_U (j : Nat) (D C : Nat → Int32) : Prop := ∀ p, p < 64 → (-(j : Int) ≤ (D p).toInt ∧ (D p).toInt ≤ j) ∧ (0 < (D p).toInt → ∃ p', p' < 64 ∧ pq_lt p' p ∧ ((D p').toInt < 0 ∨ 0 < (C p').toInt))
theorem pq_U_cong {j : Nat} {D D' C C' : Nat → Int32} (h : pq_U j D C) (hD : ∀ p, p < 64 → D' p = D p) (hC : ∀ p, p < 64 → C' p = C p) : pq_U j D' C' := by
  intro p hp
  obtain ⟨h1, h2⟩ := h p hp
  rw [hD p hp]
  refine ⟨h1, fun z => ?_⟩
  obtain ⟨p', a, b, c⟩ := h2 z
  exact ⟨p', a, b, by rw [hD p' a, hC p' a]; exact c⟩
theorem pq_U_mono {j j' : Nat} {D C : Nat → Int32} (h : pq_U j D C) (hj : j ≤ j') : pq_U j' D C := by
  intro p hp
  obtain ⟨⟨h1, h2⟩, h3⟩ := h p hp
  exact ⟨⟨by omega, by omega⟩, h3⟩
theorem pq_U_0 {j : Nat} {D C : Nat → Int32} (h : ∀ p, p < 64 → D p = 0) : pq_U j D C := by
  intro p hp
  rw [h p hp, show (0 : Int32).toInt = 0 from rfl]
  exact ⟨⟨by omega, by omega⟩, fun z => absurd z (by omega)⟩
theorem pq_p1 {x : Int32} {j : Nat} (hj : j < 1000) (h1 : -(j : Int) ≤ x.toInt) (h2 : x.toInt ≤ j) : (x + 1).toInt = x.toInt + 1 := by
  rw [Int32.toInt_add, show (1 : Int32).toInt = 1 from rfl]
  exact Int.bmod_eq_of_le (by omega) (by omega)
theorem pq_m1 {x : Int32} {j : Nat} (hj : j < 1000) (h1 : -(j : Int) ≤ x.toInt) (h2 : x.toInt ≤ j) : (x + (-1)).toInt = x.toInt - 1 := by
  rw [Int32.toInt_add, show (-1 : Int32).toInt = -1 from rfl]
  exact Int.bmod_eq_of_le (by omega) (by omega)
/-- +1 at t, a capability held strictly below t -/
theorem pq_U_send {j f t : Nat} {D D' C : Nat → Int32} (hj : j < 1000) (h : pq_U j D C) (hf : f < 64) (ht : t < 64) (hft : pq_lt f t) (hc : 0 < (C f).toInt) (h1 : D' t = D t + 1) (h2 : ∀ p, p < 64 → p ≠ t → D' p = D p) : pq_U (j + 1) D' C := by
  have ht1 := pq_p1 hj (h t ht).1.1 (h t ht).1.2
  intro p hp
  obtain ⟨⟨a1, a2⟩, a3⟩ := h p hp
  by_cases e : p = t
  · subst e
    rw [h1, ht1]
    exact ⟨⟨by omega, by omega⟩, fun _ => ⟨f, hf, hft, Or.inr hc⟩⟩
  · rw [h2 p hp e]
    refine ⟨⟨by omega, by omega⟩, fun z => ?_⟩
    obtain ⟨p', b1, b2, b3⟩ := a3 z
    by_cases e' : p' = t
    · subst e'
      exact ⟨f, hf, pq_lt_trans hf ht hp hft b2, Or.inr hc⟩
    · exact ⟨p', b1, b2, by rw [h2 p' b1 e']; exact b3⟩
/-- -1 at c, where a capability is given up -/
theorem pq_U_drop {j c : Nat} {D D' C C' : Nat → Int32} (hj : j < 1000) (h : pq_U j D C) (hc : c < 64) (h1 : D' c = D c + (-1)) (h2 : ∀ p, p < 64 → p ≠ c → D' p = D p) (h3 : ∀ p, p < 64 → p ≠ c → C' p = C p) : pq_U (j + 1) D' C' := by
  have hc1 := pq_m1 hj (h c hc).1.1 (h c hc).1.2
  have key : ∀ p, p < 64 → 0 < (D p).toInt → ∃ p', p' < 64 ∧ pq_lt p' p ∧ ((D' p').toInt < 0 ∨ 0 < (C' p').toInt) := by
    intro p hp z
    obtain ⟨p', b1, b2, b3⟩ := (h p hp).2 z
    by_cases e' : p' = c
    · subst e'
      by_cases g : 0 < (D p').toInt
      · obtain ⟨p'', c1, c2, c3⟩ := (h p' hc).2 g
        have n : p'' ≠ p' := c2.2
        exact ⟨p'', c1, pq_lt_trans c1 hc hp c2 b2, by rw [h2 p'' c1 n, h3 p'' c1 n]; exact c3⟩
      · exact ⟨p', b1, b2, Or.inl (by rw [h1, hc1]; omega)⟩
    · exact ⟨p', b1, b2, by rw [h2 p' b1 e', h3 p' b1 e']; exact b3⟩
  intro p hp
  obtain ⟨⟨a1, a2⟩, a3⟩ := h p hp
  by_cases e : p = c
  · subst e
    rw [h1, hc1]
    exact ⟨⟨by omega, by omega⟩, fun z => key p hp (by omega)⟩
  · rw [h2 p hp e]
    exact ⟨⟨by omega, by omega⟩, fun z => key p hp z⟩
/-- one capability more -/
theorem pq_U_more {j : Nat} {D C C' : Nat → Int32} (h : pq_U j D C) (hC : ∀ p, p < 64 → 0 < (C p).toInt → 0 < (C' p).toInt) : pq_U j D C' := by
  intro p hp
  obtain ⟨a, b⟩ := h p hp
  refine ⟨a, fun z => ?_⟩
  obtain ⟨p', c1, c2, c3⟩ := b z
  exact ⟨p', c1, c2, c3.imp id (hC p' c1)⟩
/-! channels as lists of batches, each a function of the points -/
def pq_D : List (Nat → Int32) → (Nat → Int32) → Nat → Int32
  | [], g => g
  | B :: l, g => fun p => B p + pq_D l g p
/-- upright at every batch that is yet to be delivered -/
def pq_up (j : Nat) (C : Nat → Int32) : List (Nat → Int32) → (Nat → Int32) → Prop
  | [], g => pq_U j g C
  | B :: l, g => pq_U j (pq_D (B :: l) g) C ∧ pq_up j C l g
theorem pq_up_h {j : Nat} {C g : Nat → Int32} : ∀ {l : List (Nat → Int32)}, pq_up j C l g → pq_U j (pq_D l g) C
  | [], h => h
  | _ :: _, h => h.1
theorem pq_D_shift {g g' : Nat → Int32} {d : Int32} {p : Nat} (h : g' p = g p + d) : ∀ l : List (Nat → Int32), pq_D l g' p = pq_D l g p + d
  | [] => h
  | B :: l => by
    show B p + pq_D l g' p = B p + pq_D l g p + d
    rw [pq_D_shift h l, Int32.add_assoc]
theorem pq_D_same {g g' : Nat → Int32} {p : Nat} (h : g' p = g p) : ∀ l : List (Nat → Int32), pq_D l g' p = pq_D l g p
  | [] => h
  | B :: l => by
    show B p + pq_D l g' p = B p + pq_D l g p
    rw [pq_D_same h l]
theorem pq_up_map {j j' : Nat} {C C' g g' : Nat → Int32} (H : ∀ l : List (Nat → Int32), pq_U j (pq_D l g) C → pq_U j' (pq_D l g') C') : ∀ l : List (Nat → Int32), pq_up j C l g → pq_up j' C' l g'
  | [], h => H [] h
  | B :: l, h => ⟨H (B :: l) h.1, pq_up_map H l h.2⟩
theorem pq_D_app {g : Nat → Int32} {p : Nat} : ∀ l : List (Nat → Int32), pq_D (l ++ [g]) (fun _ => 0) p = pq_D l g p
  | [] => Int32.add_zero _
  | B :: l => by
    show B p + pq_D (l ++ [g]) (fun _ => 0) p = B p + pq_D l g p
    rw [pq_D_app l]
theorem pq_D_cong {g g' : Nat → Int32} {p : Nat} (h : g' p = g p) (l : List (Nat → Int32)) : pq_D l g' p = pq_D l g p := pq_D_same h l
theorem pq_up_app {j : Nat} {C g g' : Nat → Int32} (h0 : ∀ p, p < 64 → g' p = 0) : ∀ l : List (Nat → Int32), pq_up j C l g → pq_up j C (l ++ [g]) g'
  | [], h => ⟨pq_U_cong h (fun p hp => by show g p + g' p = g p; rw [h0 p hp, Int32.add_zero]) (fun _ _ => rfl), pq_U_0 h0⟩
  | B :: l, h => by
    refine ⟨pq_U_cong h.1 (fun p hp => ?_) (fun _ _ => rfl), pq_up_app h0 l h.2⟩
    show B p + pq_D (l ++ [g]) g' p = B p + pq_D l g p
    rw [pq_D_same (g := fun _ => 0) (g' := g') (h0 p hp) (l ++ [g]), pq_D_app l]
end
section
/-! sums over the workers -/
def pq_is (g : Nat → Int32) : Nat → Int32
  | 0 => 0
  | n + 1 => pq_is g n + g n
theorem pq_is_cong {g g' : Nat → Int32} : ∀ {n : Nat}, (∀ i, i < n → g' i = g i) → pq_is g' n = pq_is g n := by
  intro n
  induction n with
  | zero => intro _; rfl
  | succ n ih =>
    intro h
    show pq_is g' n + g' n = pq_is g n + g n
    rw [ih (fun i hi => h i (by omega)), h n (by omega)]
theorem pq_is_one {g g' : Nat → Int32} {s : Nat} {d : Int32} (h1 : g' s = g s + d) : ∀ {n : Nat}, s < n → (∀ i, i < n → i ≠ s → g' i = g i) → pq_is g' n = pq_is g n + d := by
  intro n
  induction n with
  | zero => intro h; omega
  | succ n ih =>
    intro hs h
    show pq_is g' n + g' n = pq_is g n + g n + d
    by_cases e : s = n
    · subst e
      rw [pq_is_cong (fun i hi => h i (by omega) (by omega)), h1, Int32.add_assoc]
    · rw [ih (by omega) (fun i hi => h i (by omega)), h n (by omega) (by omega), Int32.add_assoc, Int32.add_assoc, Int32.add_comm d]
def pq_ii (g : Nat → Int32) : Nat → Int
  | 0 => 0
  | n + 1 => pq_ii g n + (g n).toInt
theorem pq_is_int {g : Nat → Int32} : ∀ {n : Nat}, n ≤ 4 → (∀ i, i < n → -1000 ≤ (g i).toInt ∧ (g i).toInt ≤ 1000) → (pq_is g n).toInt = pq_ii g n ∧ -(1000 * (n : Int)) ≤ pq_ii g n ∧ pq_ii g n ≤ 1000 * (n : Int) := by
  intro n
  induction n with
  | zero =>
    intro _ _
    exact ⟨rfl, by show -(1000 * (0 : Int)) ≤ 0; omega, by show (0 : Int) ≤ 1000 * 0; omega⟩
  | succ n ih =>
    intro hn h
    obtain ⟨a, b, c⟩ := ih (by omega) (fun i hi => h i (by omega))
    have ⟨h1, h2⟩ := h n (by omega)
    have e : pq_ii g (n + 1) = pq_ii g n + (g n).toInt := rfl
    refine ⟨?_, by rw [e]; omega, by rw [e]; omega⟩
    show (pq_is g n + g n).toInt = _
    rw [Int32.toInt_add, a, e]
    exact Int.bmod_eq_of_le (by omega) (by omega)
theorem pq_ii_le {g : Nat → Int32} : ∀ {n : Nat}, (∀ i, i < n → (g i).toInt ≤ 0) → pq_ii g n ≤ 0 ∧ ∀ i, i < n → pq_ii g n ≤ (g i).toInt := by
  intro n
  induction n with
  | zero => intro _; exact ⟨Int.le_refl 0, fun i hi => absurd hi (by omega)⟩
  | succ n ih =>
    intro h
    obtain ⟨a, b⟩ := ih (fun i hi => h i (by omega))
    have h1 := h n (by omega)
    have e : pq_ii g (n + 1) = pq_ii g n + (g n).toInt := rfl
    refine ⟨by rw [e]; omega, fun i hi => ?_⟩
    by_cases z : i = n
    · rw [z, e]; omega
    · have := b i (by omega)
      rw [e]; omega
theorem pq_ii_ge {g : Nat → Int32} : ∀ {n : Nat}, (∀ i, i < n → 0 ≤ (g i).toInt) → 0 ≤ pq_ii g n ∧ ∀ i, i < n → (g i).toInt ≤ pq_ii g n := by
  intro n
  induction n with
  | zero => intro _; exact ⟨Int.le_refl 0, fun i hi => absurd hi (by omega)⟩
  | succ n ih =>
    intro h
    obtain ⟨a, b⟩ := ih (fun i hi => h i (by omega))
    have h1 := h n (by omega)
    have e : pq_ii g (n + 1) = pq_ii g n + (g n).toInt := rfl
    refine ⟨by rw [e]; omega, fun i hi => ?_⟩
    by_cases z : i = n
    · rw [z, e]; omega
    · have := b i (by omega)
      rw [e]; omega
/-- the view's count, by the sum, as an integer -/
theorem pq_view_int {W : Nat} {v m : Int32} {C D : Nat → Int32} (hW : W ≤ 4) (hm : 0 ≤ m.toInt ∧ m.toInt ≤ 1000) (hC : ∀ s, s < W → 0 ≤ (C s).toInt ∧ (C s).toInt ≤ 1000) (hD : ∀ s, s < W → -1000 ≤ (D s).toInt ∧ (D s).toInt ≤ 1000) (hS : v + pq_is D W = m + pq_is C W) : v.toInt = m.toInt + pq_ii C W - pq_ii D W := by
  obtain ⟨a1, a2, a3⟩ := pq_is_int hW (g := C) (fun s hs => ⟨by have := (hC s hs).1; omega, (hC s hs).2⟩)
  obtain ⟨b1, b2, b3⟩ := pq_is_int hW (g := D) hD
  have e : v = m + pq_is C W - pq_is D W := by rw [← hS, Int32.add_sub_cancel]
  have e1 : (m + pq_is C W).toInt = m.toInt + pq_ii C W := by
    rw [Int32.toInt_add, a1]
    exact Int.bmod_eq_of_le (by omega) (by omega)
  rw [e, Int32.toInt_sub, e1, b1]
  exact Int.bmod_eq_of_le (by omega) (by omega)
theorem pq_safe {W j : Nat} {m v : Nat → Int32} {C D : Nat → Nat → Int32} (hW : W ≤ 4) (hj : j < 1000)
    (hm : ∀ p, p < 64 → 0 ≤ (m p).toInt ∧ (m p).toInt ≤ 1000) (hC : ∀ s, s < W → ∀ p, p < 64 → 0 ≤ (C s p).toInt ∧ (C s p).toInt ≤ 1000)
    (hU : ∀ s, s < W → pq_U j (D s) (C s)) (hS : ∀ p, p < 64 → v p + pq_is (fun s => D s p) W = m p + pq_is (fun s => C s p) W)
    {q : Nat} (hq : q < 64) (ho : 0 < (m q).toInt ∨ ∃ s, s < W ∧ 0 < (C s q).toInt) : ∃ p, p < 64 ∧ pq_le p q ∧ 0 < (v p).toInt := by
  apply Classical.byContradiction
  intro hno
  have hv : ∀ p, p < 64 → pq_le p q → (v p).toInt ≤ 0 := by
    intro p hp hl
    rcases Int.lt_or_le 0 (v p).toInt with z | z
    · exact absurd ⟨p, hp, hl, z⟩ hno
    · exact z
  have claim : ∀ n p, p < 64 → pq_rk p = n → pq_le p q → (0 < (m p).toInt ∨ ∃ s, s < W ∧ (0 < (C s p).toInt ∨ (D s p).toInt ≠ 0)) → False := by
    intro n
    induction n using Nat.strongRecOn with
    | ind n ih =>
      intro p hp hr hl hs
      have hvp := hv p hp hl
      have hDb : ∀ s, s < W → -1000 ≤ (D s p).toInt ∧ (D s p).toInt ≤ 1000 := fun s h => by
        have := ((hU s h) p hp).1
        omega
      have e := pq_view_int (C := fun s => C s p) (D := fun s => D s p) hW (hm p hp) (fun s h => hC s h p hp) hDb (hS p hp)
      obtain ⟨c1, c2⟩ := pq_ii_ge (g := fun s => C s p) (n := W) (fun s h => (hC s h p hp).1)
      have hex : ∃ s, s < W ∧ 0 < (D s p).toInt := by
        apply Classical.byContradiction
        intro hnd
        have hle : ∀ s, s < W → (D s p).toInt ≤ 0 := by
          intro s h
          rcases Int.lt_or_le 0 (D s p).toInt with z | z
          · exact absurd ⟨s, h, z⟩ hnd
          · exact z
        obtain ⟨d1, d2⟩ := pq_ii_le (g := fun s => D s p) (n := W) hle
        have hm0 := (hm p hp).1
        rcases hs with g | ⟨s, h, g | g⟩
        · omega
        · have := c2 s h
          omega
        · have := d2 s h
          have := hle s h
          omega
      obtain ⟨s, h, g⟩ := hex
      obtain ⟨p', a1, a2, a3⟩ := ((hU s h) p hp).2 g
      refine ih (pq_rk p') (by rw [← hr]; exact pq_lt_rk a1 hp a2.1 a2.2) p' a1 rfl (pq_trans a1 hp hq a2.1 hl) (Or.inr ⟨s, h, ?_⟩)
      rcases a3 with z | z
      · exact Or.inr (by omega)
      · exact Or.inl z
  refine claim _ q hq rfl (pq_refl q hq) ?_
  rcases ho with z | ⟨s, h, z⟩
  · exact Or.inl z
  · exact Or.inr ⟨s, h, Or.inl z⟩
/-! the arrays of a channel against its batches -/
def pq_acc (ep ed : Nat → Int32) (o p : Nat) : Nat → Int32
  | 0 => 0
  | n + 1 => pq_acc ep ed o p n + (if (ep (o + n)).toNatClampNeg = p then ed (o + n) else 0)
theorem pq_acc_s (ep ed : Nat → Int32) (o p n : Nat) : pq_acc ep ed o p (n + 1) = pq_acc ep ed o p n + (if (ep (o + n)).toNatClampNeg = p then ed (o + n) else 0) := rfl
theorem pq_acc_cong {ep ed ep' ed' : Nat → Int32} {o o' p : Nat} : ∀ {n : Nat}, (∀ j, j < n → ep' (o' + j) = ep (o + j) ∧ ed' (o' + j) = ed (o + j)) → pq_acc ep' ed' o' p n = pq_acc ep ed o p n := by
  intro n
  induction n with
  | zero => intro _; rfl
  | succ n ih =>
    intro h
    rw [pq_acc_s, pq_acc_s, ih (fun j hj => h j (by omega)), (h n (by omega)).1, (h n (by omega)).2]
def pq_bat (ep ed : Nat → Int32) : Nat → List Nat → List (Nat → Int32) → Prop
  | _, [], [] => True
  | o, a :: l, B :: Bs => (∀ p, p < 64 → B p = pq_acc ep ed o p a) ∧ pq_bat ep ed (o + a) l Bs
  | _, [], _ :: _ => False
  | _, _ :: _, [] => False
theorem pq_bat_cong {ep ed ep' ed' : Nat → Int32} : ∀ {l : List Nat} {Bs : List (Nat → Int32)} {o o' : Nat}, (∀ j, j < pt_sum l → ep' (o' + j) = ep (o + j) ∧ ed' (o' + j) = ed (o + j)) → pq_bat ep ed o l Bs → pq_bat ep' ed' o' l Bs
  | [], [], _, _, _, _ => trivial
  | a :: l, B :: Bs, o, o', h, hb => by
    have hs : pt_sum (a :: l) = a + pt_sum l := rfl
    rw [hs] at h
    refine ⟨fun p hp => (hb.1 p hp).trans (pq_acc_cong (fun j hj => h j (by omega))).symm, pq_bat_cong (fun j hj => ?_) hb.2⟩
    have := h (a + j) (by omega)
    rw [show o' + a + j = o' + (a + j) by omega, show o + a + j = o + (a + j) by omega]
    exact this
  | [], _ :: _, _, _, _, hb => hb.elim
  | _ :: _, [], _, _, _, hb => hb.elim
theorem pq_bat_app {ep ed : Nat → Int32} {n : Nat} {g : Nat → Int32} : ∀ {l : List Nat} {Bs : List (Nat → Int32)} {o : Nat}, pq_bat ep ed o l Bs → (∀ p, p < 64 → g p = pq_acc ep ed (o + pt_sum l) p n) → pq_bat ep ed o (l ++ [n]) (Bs ++ [g])
  | [], [], _, _, h => ⟨h, trivial⟩
  | a :: l, B :: Bs, o, hb, h => by
    refine ⟨hb.1, pq_bat_app hb.2 (fun p hp => ?_)⟩
    have := h p hp
    rw [show o + pt_sum (a :: l) = o + a + pt_sum l by show o + (a + pt_sum l) = _; omega] at this
    exact this
  | [], _ :: _, _, hb, _ => hb.elim
  | _ :: _, [], _, hb, _ => hb.elim
theorem pq_ep_out {pend : Nat → Int32} {b pos : Nat} {f : Nat → Int32} {i : Nat} : ∀ {n : Nat}, (i < pos ∨ pos + pt_cnt pend b n ≤ i) → pt_ep pend b pos f n i = f i := by
  intro n
  induction n with
  | zero => intro _; rfl
  | succ n ih =>
    intro h
    rw [pt_cnt_s] at h
    by_cases z : pend (b + n) = 0
    · rw [pt_ep_z z]; exact ih (by omega)
    · rw [pt_nz_1 z] at h
      rw [pt_ep_p z, pk_un (by omega)]
      exact ih (by omega)
theorem pq_ed_out {pend : Nat → Int32} {b pos : Nat} {f : Nat → Int32} {i : Nat} : ∀ {n : Nat}, (i < pos ∨ pos + pt_cnt pend b n ≤ i) → pt_ed pend b pos f n i = f i := by
  intro n
  induction n with
  | zero => intro _; rfl
  | succ n ih =>
    intro h
    rw [pt_cnt_s] at h
    by_cases z : pend (b + n) = 0
    · rw [pt_ed_z z]; exact ih (by omega)
    · rw [pt_nz_1 z] at h
      rw [pt_ed_p z, pk_un (by omega)]
      exact ih (by omega)
theorem pq_acc_app {pend : Nat → Int32} {b pos p : Nat} {f g : Nat → Int32} : ∀ {n : Nat}, n ≤ 64 → pq_acc (pt_ep pend b pos f n) (pt_ed pend b pos g n) pos p (pt_cnt pend b n) = if p < n then pend (b + p) else 0 := by
  intro n
  induction n with
  | zero =>
    intro _
    show (0 : Int32) = _
    rw [if_neg (by omega)]
  | succ n ih =>
    intro hn
    have h := ih (by omega)
    by_cases z : pend (b + n) = 0
    · rw [pt_ep_z z, pt_ed_z z, pt_cnt_s, pt_nz_0 z, Nat.add_zero, h]
      by_cases e : p = n
      · rw [e, if_neg (by omega), if_pos (by omega), z]
      · by_cases e2 : p < n
        · rw [if_pos e2, if_pos (by omega)]
        · rw [if_neg e2, if_neg (by omega)]
    · rw [pt_ep_p z, pt_ed_p z, pt_cnt_s, pt_nz_1 z, pq_acc_s, pk_us, pk_us, nI_clamp (by omega),
        pq_acc_cong (ep := pt_ep pend b pos f n) (ed := pt_ed pend b pos g n) (o := pos) (fun j hj => ⟨pk_un (by omega), pk_un (by omega)⟩), h]
      by_cases e : p = n
      · rw [e, if_neg (by omega), if_pos rfl, if_pos (by omega), Int32.zero_add]
      · rw [if_neg (show ¬ n = p by omega), Int32.add_zero]
        by_cases e2 : p < n
        · rw [if_pos e2, if_pos (by omega)]
        · rw [if_neg e2, if_neg (by omega)]
theorem pq_vw_at {ep ed : Nat → Int32} {first b p : Nat} {f : Nat → Int32} : ∀ {n : Nat}, pt_vw ep ed first b f n (b + p) = f (b + p) + pq_acc ep ed first p n := by
  intro n
  induction n with
  | zero => exact (Int32.add_zero _).symm
  | succ n ih =>
    show upd (pt_vw ep ed first b f n) (b + (ep (first + n)).toNatClampNeg) (pt_vw ep ed first b f n (b + (ep (first + n)).toNatClampNeg) + ed (first + n)) (b + p) = _
    rw [pq_acc_s]
    by_cases e : (ep (first + n)).toNatClampNeg = p
    · rw [e, pk_us, if_pos rfl, ih, Int32.add_assoc]
    · rw [pk_un (by omega), if_neg e, Int32.add_zero, ih]
theorem pq_vw_out {ep ed : Nat → Int32} {first b i : Nat} {f : Nat → Int32} (he : ∀ i, ∃ p, p < 64 ∧ ep i = nI p) (hi : i < b ∨ b + 64 ≤ i) : ∀ {n : Nat}, pt_vw ep ed first b f n i = f i := by
  intro n
  induction n with
  | zero => rfl
  | succ n ih =>
    show upd (pt_vw ep ed first b f n) (b + (ep (first + n)).toNatClampNeg) (pt_vw ep ed first b f n (b + (ep (first + n)).toNatClampNeg) + ed (first + n)) i = _
    obtain ⟨p, hp, e⟩ := he (first + n)
    rw [e, nI_clamp (by omega), pk_un (by omega), ih]
end
section
/-! the invariant of the law's loop, and what each call makes of it -/
def pq_J (W j : Nat) (ms ca pe vi bc bs ec ep ed : Nat → Int32) : Prop :=
  (1 ≤ W ∧ W ≤ 4) ∧ (∀ i, ∃ a, a ≤ j + 1 ∧ ms i = nI a) ∧ (∀ i, ∃ a, a ≤ j + 1 ∧ ca i = nI a) ∧ (∀ i, ∃ p, p < 64 ∧ ep i = nI p) ∧
  ∃ (L : Nat → List Nat) (B : Nat → List (Nat → Int32)),
    (∀ c, c < 16 → pt_ch (L c) c bc bs ec ∧ pq_bat ep ed (32 * c) (L c) (B c)) ∧
    (∀ s, s < W → ∀ r, r < W → pq_up j (fun p => ca (64 * s + p)) (B (4 * s + r)) (fun p => pe (64 * s + p))) ∧
    (∀ r, r < W → ∀ p, p < 64 → vi (64 * r + p) + pq_is (fun s => pq_D (B (4 * s + r)) (fun p => pe (64 * s + p)) p) W = ms p + pq_is (fun s => ca (64 * s + p)) W)
theorem pq_up_cong {j j' : Nat} {C C' g g' : Nat → Int32} {l : List (Nat → Int32)} (hj : j ≤ j') (hC : ∀ p, p < 64 → C' p = C p) (hg : ∀ p, p < 64 → g' p = g p) (h : pq_up j C l g) : pq_up j' C' l g' :=
  pq_up_map (fun l hU => pq_U_mono (pq_U_cong hU (fun p hp => pq_D_same (hg p hp) l) hC) hj) l h
theorem pq_J_mono {W j j' : Nat} {ms ca pe vi bc bs ec ep ed : Nat → Int32} (hj : j ≤ j') (J : pq_J W j ms ca pe vi bc bs ec ep ed) : pq_J W j' ms ca pe vi bc bs ec ep ed := by
  obtain ⟨h1, h2, h3, h4, L, B, h5, h7, h6⟩ := J
  refine ⟨h1, fun i => ?_, fun i => ?_, h4, L, B, h5, fun s hs r hr => ?_, h6⟩
  · obtain ⟨a, ha, e⟩ := h2 i
    exact ⟨a, by omega, e⟩
  · obtain ⟨a, ha, e⟩ := h3 i
    exact ⟨a, by omega, e⟩
  · exact pq_up_cong hj (fun _ _ => rfl) (fun _ _ => rfl) (h7 s hs r hr)
theorem pq_ring {v S m C a b d : Int32} (h : v + S = m + C) (e : d = a + b) : v + (S + d) = m + a + (C + b) := by
  rw [e, ← Int32.add_assoc, h, ← Int32.add_assoc, ← Int32.add_assoc]
  rw [Int32.add_assoc m C a, Int32.add_comm C a, ← Int32.add_assoc m a C]
theorem pq_J_step {W j j' s0 : Nat} {ms ca pe vi bc bs ec ep ed ms' ca' pe' : Nat → Int32} (hj' : j ≤ j') (J : pq_J W j ms ca pe vi bc bs ec ep ed) (hs : s0 < W)
    (hms : ∀ i, ∃ a, a ≤ j' + 1 ∧ ms' i = nI a) (hca : ∀ i, ∃ a, a ≤ j' + 1 ∧ ca' i = nI a) (dm dc dg : Nat → Int32)
    (h1 : ∀ p, p < 64 → ms' p = ms p + dm p) (h2 : ∀ p, p < 64 → ca' (64 * s0 + p) = ca (64 * s0 + p) + dc p) (h3 : ∀ p, p < 64 → pe' (64 * s0 + p) = pe (64 * s0 + p) + dg p) (h4 : ∀ p, p < 64 → dg p = dm p + dc p)
    (h5 : ∀ s, s ≠ s0 → ∀ p, p < 64 → ca' (64 * s + p) = ca (64 * s + p) ∧ pe' (64 * s + p) = pe (64 * s + p))
    (H : ∀ l, pq_U j (pq_D l (fun p => pe (64 * s0 + p))) (fun p => ca (64 * s0 + p)) → pq_U j' (pq_D l (fun p => pe' (64 * s0 + p))) (fun p => ca' (64 * s0 + p))) : pq_J W j' ms' ca' pe' vi bc bs ec ep ed := by
  obtain ⟨g1, g2, g3, g4, L, B, g5, g7, g6⟩ := J
  refine ⟨g1, hms, hca, g4, L, B, g5, fun s hs' r hr => ?_, fun r hr p hp => ?_⟩
  · have c := g7 s hs' r hr
    by_cases e : s = s0
    · subst e
      exact pq_up_map H _ c
    · exact pq_up_cong hj' (fun p hp => (h5 s e p hp).1) (fun p hp => (h5 s e p hp).2) c
  · have k := g6 r hr p hp
    have e1 : pq_is (fun s => pq_D (B (4 * s + r)) (fun p => pe' (64 * s + p)) p) W = pq_is (fun s => pq_D (B (4 * s + r)) (fun p => pe (64 * s + p)) p) W + dg p :=
      pq_is_one (s := s0) (pq_D_shift (g := fun p => pe (64 * s0 + p)) (g' := fun p => pe' (64 * s0 + p)) (h3 p hp) _) hs (fun i _ hne => pq_D_same (g := fun p => pe (64 * i + p)) (g' := fun p => pe' (64 * i + p)) (h5 i hne p hp).2 _)
    have e2 : pq_is (fun s => ca' (64 * s + p)) W = pq_is (fun s => ca (64 * s + p)) W + dc p :=
      pq_is_one (s := s0) (h2 p hp) hs (fun i _ hne => (h5 i hne p hp).1)
    rw [e1, e2, h1 p hp]
    exact pq_ring k (h4 p hp)
theorem pq_bd1 {f : Nat → Int32} {k q a : Nat} (hf : ∀ i, ∃ a, a ≤ k ∧ f i = nI a) (ha : a ≤ k + 1) : ∀ i, ∃ b, b ≤ k + 1 ∧ upd f q (nI a) i = nI b := by
  intro i
  by_cases e : i = q
  · rw [e, pk_us]; exact ⟨a, ha, rfl⟩
  · rw [pk_un e]
    obtain ⟨b, hb, z⟩ := hf i
    exact ⟨b, by omega, z⟩
theorem pq_pos {a : Nat} (h : a < 2 ^ 31) : 0 < (nI (a + 1)).toInt ∨ a + 1 = 2 ^ 31 := by
  by_cases e : a + 1 = 2 ^ 31
  · exact Or.inr e
  · rw [nI_toInt (by omega)]
    exact Or.inl (by omega)
theorem pq_J_send {W j s0 f t : Nat} {ms ca pe vi bc bs ec ep ed ms' pe' : Nat → Int32} (hj : j < 900) (J : pq_J W j ms ca pe vi bc bs ec ep ed) (hs : s0 < W) (hf : f < 64) (ht : t < 64) (hft : pq_lt f t) (hc : ¬ ca (64 * s0 + f) = 0)
    (e1 : ms' = upd ms t (ms t + 1)) (e2 : pe' = upd pe (64 * s0 + t) (pe (64 * s0 + t) + 1)) : pq_J W (j + 1) ms' ca pe' vi bc bs ec ep ed := by
  have hJ := J
  obtain ⟨g1, g2, g3, g4, L, B, g5, g7, g6⟩ := J
  obtain ⟨a, ha, ea⟩ := g2 t
  have hcp : 0 < (ca (64 * s0 + f)).toInt := by
    obtain ⟨b, hb, eb⟩ := g3 (64 * s0 + f)
    rw [eb] at hc ⊢
    rw [nI_toInt (by omega)]
    have : b ≠ 0 := fun z => hc (by rw [z]; rfl)
    omega
  refine pq_J_step (j' := j + 1) (Nat.le_succ j) hJ hs ?_ (fun i => ?_) (fun p => if p = t then 1 else 0) (fun _ => 0) (fun p => if p = t then 1 else 0) (fun p hp => ?_) (fun p hp => (Int32.add_zero _).symm) (fun p hp => ?_) (fun p hp => (Int32.add_zero _).symm) (fun s hne p hp => ⟨rfl, ?_⟩) (fun l hU => ?_)
  · rw [e1, ea, nI_1]
    exact pq_bd1 g2 (by omega)
  · obtain ⟨b, hb, eb⟩ := g3 i
    exact ⟨b, by omega, eb⟩
  · rw [e1]
    by_cases e : p = t
    · rw [e, pk_us]; simp only [if_true]
    · rw [pk_un e]; simp only [if_neg e, Int32.add_zero]
  · rw [e2]
    by_cases e : p = t
    · rw [e, pk_us]; simp only [if_true]
    · rw [pk_un (by omega)]; simp only [if_neg e, Int32.add_zero]
  · rw [e2, pk_un (by omega)]
  · refine pq_U_send (by omega) hU hf ht hft hcp ?_ (fun p hp e => ?_)
    · exact pq_D_shift (g := fun p => pe (64 * s0 + p)) (g' := fun p => pe' (64 * s0 + p)) (by show pe' (64 * s0 + t) = _; rw [e2, pk_us]) l
    · exact pq_D_same (g := fun p => pe (64 * s0 + p)) (g' := fun p => pe' (64 * s0 + p)) (by show pe' (64 * s0 + p) = _; rw [e2, pk_un (by omega)]) l
theorem pq_J_recv {W j s0 c : Nat} {ms ca pe vi bc bs ec ep ed ms' ca' : Nat → Int32} (hj : j < 900) (J : pq_J W j ms ca pe vi bc bs ec ep ed) (hs : s0 < W) (hc : c < 64) (hm : ¬ ms c = 0)
    (e1 : ms' = upd ms c (ms c + (-1))) (e2 : ca' = upd ca (64 * s0 + c) (ca (64 * s0 + c) + 1)) : pq_J W (j + 1) ms' ca' pe vi bc bs ec ep ed := by
  have hJ := J
  obtain ⟨g1, g2, g3, g4, L, B, g5, g7, g6⟩ := J
  obtain ⟨a, ha, ea⟩ := g2 c
  obtain ⟨a', rfl⟩ : ∃ a', a = a' + 1 := by
    refine ⟨a - 1, ?_⟩
    have : a ≠ 0 := fun z => hm (by rw [ea, z]; rfl)
    omega
  obtain ⟨b, hb, eb⟩ := g3 (64 * s0 + c)
  refine pq_J_step (j' := j + 1) (Nat.le_succ j) hJ hs ?_ ?_ (fun p => if p = c then (-1) else 0) (fun p => if p = c then 1 else 0) (fun _ => 0) (fun p hp => ?_) (fun p hp => ?_) (fun p hp => (Int32.add_zero _).symm) (fun p hp => ?_) (fun s hne p hp => ⟨?_, rfl⟩) (fun l hU => ?_)
  · rw [e1, ea, pk_m1]
    exact pq_bd1 g2 (by omega)
  · rw [e2, eb, nI_1]
    exact pq_bd1 g3 (by omega)
  · rw [e1]
    by_cases e : p = c
    · rw [e, pk_us]; simp only [if_true]
    · rw [pk_un e]; simp only [if_neg e, Int32.add_zero]
  · rw [e2]
    by_cases e : p = c
    · rw [e, pk_us]; simp only [if_true]
    · rw [pk_un (by omega)]; simp only [if_neg e, Int32.add_zero]
  · by_cases e : p = c
    · simp only [if_pos e]; decide
    · simp only [if_neg e]; decide
  · rw [e2, pk_un (by omega)]
  · refine pq_U_more (pq_U_mono hU (Nat.le_succ j)) (fun p hp z => ?_)
    show 0 < (ca' (64 * s0 + p)).toInt
    rw [e2]
    by_cases e : p = c
    · rw [e, pk_us, eb, nI_1, nI_toInt (by omega)]; omega
    · rw [pk_un (by omega)]; exact z
theorem pq_J_drop {W j s0 c : Nat} {ms ca pe vi bc bs ec ep ed ca' pe' : Nat → Int32} (hj : j < 900) (J : pq_J W j ms ca pe vi bc bs ec ep ed) (hs : s0 < W) (hc : c < 64) (hm : ¬ ca (64 * s0 + c) = 0)
    (e1 : ca' = upd ca (64 * s0 + c) (ca (64 * s0 + c) + (-1))) (e2 : pe' = upd pe (64 * s0 + c) (pe (64 * s0 + c) + (-1))) : pq_J W (j + 1) ms ca' pe' vi bc bs ec ep ed := by
  have hJ := J
  obtain ⟨g1, g2, g3, g4, L, B, g5, g7, g6⟩ := J
  obtain ⟨a, ha, ea⟩ := g3 (64 * s0 + c)
  obtain ⟨a', rfl⟩ : ∃ a', a = a' + 1 := by
    refine ⟨a - 1, ?_⟩
    have : a ≠ 0 := fun z => hm (by rw [ea, z]; rfl)
    omega
  refine pq_J_step (j' := j + 1) (Nat.le_succ j) hJ hs (fun i => ?_) ?_ (fun _ => 0) (fun p => if p = c then (-1) else 0) (fun p => if p = c then (-1) else 0) (fun p hp => (Int32.add_zero _).symm) (fun p hp => ?_) (fun p hp => ?_) (fun p hp => (Int32.zero_add _).symm) (fun s hne p hp => ⟨?_, ?_⟩) (fun l hU => ?_)
  · obtain ⟨b, hb, eb⟩ := g2 i
    exact ⟨b, by omega, eb⟩
  · rw [e1, ea, pk_m1]
    exact pq_bd1 g3 (by omega)
  · rw [e1]
    by_cases e : p = c
    · rw [e, pk_us]; simp only [if_true]
    · rw [pk_un (by omega)]; simp only [if_neg e, Int32.add_zero]
  · rw [e2]
    by_cases e : p = c
    · rw [e, pk_us]; simp only [if_true]
    · rw [pk_un (by omega)]; simp only [if_neg e, Int32.add_zero]
  · rw [e1, pk_un (by omega)]
  · rw [e2, pk_un (by omega)]
  · refine pq_U_drop (by omega) hU hc ?_ (fun p hp e => ?_) (fun p hp e => ?_)
    · exact pq_D_shift (g := fun p => pe (64 * s0 + p)) (g' := fun p => pe' (64 * s0 + p)) (by show pe' (64 * s0 + c) = _; rw [e2, pk_us]) l
    · exact pq_D_same (g := fun p => pe (64 * s0 + p)) (g' := fun p => pe' (64 * s0 + p)) (by show pe' (64 * s0 + p) = _; rw [e2, pk_un (by omega)]) l
    · show ca' (64 * s0 + p) = ca (64 * s0 + p)
      rw [e1, pk_un (by omega)]
theorem pq_J_adv {W j s0 o t : Nat} {ms ca pe vi bc bs ec ep ed ca' pe' : Nat → Int32} (hj : j < 900) (J : pq_J W j ms ca pe vi bc bs ec ep ed) (hs : s0 < W) (ho : o < 64) (ht : t < 64) (hot : pq_lt o t) (hc : ¬ ca (64 * s0 + o) = 0)
    (e1 : ca' = upd (upd ca (64 * s0 + o) (ca (64 * s0 + o) + (-1))) (64 * s0 + t) (ca (64 * s0 + t) + 1)) (e2 : pe' = upd (upd pe (64 * s0 + o) (pe (64 * s0 + o) + (-1))) (64 * s0 + t) (pe (64 * s0 + t) + 1)) : pq_J W (j + 2) ms ca' pe' vi bc bs ec ep ed := by
  have hJ := J
  have hne : o ≠ t := hot.2
  obtain ⟨g1, g2, g3, g4, L, B, g5, g7, g6⟩ := J
  obtain ⟨a, ha, ea⟩ := g3 (64 * s0 + o)
  obtain ⟨a', rfl⟩ : ∃ a', a = a' + 1 := by
    refine ⟨a - 1, ?_⟩
    have : a ≠ 0 := fun z => hc (by rw [ea, z]; rfl)
    omega
  obtain ⟨b, hb, eb⟩ := g3 (64 * s0 + t)
  have hcp : 0 < (ca (64 * s0 + o)).toInt := by
    rw [ea, nI_toInt (by omega)]; omega
  have at_t : ∀ (f : Nat → Int32) (x y : Int32), upd (upd f (64 * s0 + o) x) (64 * s0 + t) y (64 * s0 + t) = y := fun f x y => pk_us
  have at_o : ∀ (f : Nat → Int32) (x y : Int32), upd (upd f (64 * s0 + o) x) (64 * s0 + t) y (64 * s0 + o) = x := fun f x y => by rw [pk_un (by omega), pk_us]
  have at_n : ∀ (f : Nat → Int32) (x y : Int32) (i : Nat), i ≠ 64 * s0 + o → i ≠ 64 * s0 + t → upd (upd f (64 * s0 + o) x) (64 * s0 + t) y i = f i := fun f x y i h1 h2 => by rw [pk_un h2, pk_un h1]
  refine pq_J_step (j' := j + 2) (by omega) hJ hs (fun i => ?_) (fun i => ?_) (fun _ => 0) (fun p => if p = t then 1 else if p = o then (-1) else 0) (fun p => if p = t then 1 else if p = o then (-1) else 0) (fun p hp => (Int32.add_zero _).symm) (fun p hp => ?_) (fun p hp => ?_) (fun p hp => (Int32.zero_add _).symm) (fun s hne' p hp => ⟨?_, ?_⟩) (fun l hU => ?_)
  · obtain ⟨b, hb, eb⟩ := g2 i
    exact ⟨b, by omega, eb⟩
  · rw [e1]
    by_cases x1 : i = 64 * s0 + t
    · rw [x1, at_t, eb, nI_1]; exact ⟨b + 1, by omega, rfl⟩
    · by_cases x2 : i = 64 * s0 + o
      · rw [x2, at_o, ea, pk_m1]; exact ⟨a', by omega, rfl⟩
      · rw [at_n _ _ _ _ x2 x1]
        obtain ⟨b, hb, eb⟩ := g3 i
        exact ⟨b, by omega, eb⟩
  · rw [e1]
    by_cases x1 : p = t
    · rw [x1, at_t]; simp only [if_true]
    · by_cases x2 : p = o
      · rw [x2, at_o]; simp only [if_neg hne, if_true]
      · rw [at_n _ _ _ _ (by omega) (by omega)]; simp only [if_neg x1, if_neg x2, Int32.add_zero]
  · rw [e2]
    by_cases x1 : p = t
    · rw [x1, at_t]; simp only [if_true]
    · by_cases x2 : p = o
      · rw [x2, at_o]; simp only [if_neg hne, if_true]
      · rw [at_n _ _ _ _ (by omega) (by omega)]; simp only [if_neg x1, if_neg x2, Int32.add_zero]
  · rw [e1, at_n _ _ _ _ (by omega) (by omega)]
  · rw [e2, at_n _ _ _ _ (by omega) (by omega)]
  · have k1 : pq_U (j + 1) (pq_D l (fun p => upd pe (64 * s0 + t) (pe (64 * s0 + t) + 1) (64 * s0 + p))) (fun p => ca (64 * s0 + p)) := by
      refine pq_U_send (by omega) hU ho ht hot hcp ?_ (fun p hp e => ?_)
      · exact pq_D_shift (g := fun p => pe (64 * s0 + p)) (g' := fun p => upd pe (64 * s0 + t) (pe (64 * s0 + t) + 1) (64 * s0 + p)) pk_us l
      · exact pq_D_same (g := fun p => pe (64 * s0 + p)) (g' := fun p => upd pe (64 * s0 + t) (pe (64 * s0 + t) + 1) (64 * s0 + p)) (pk_un (by omega)) l
    have k2 : pq_U (j + 1) (pq_D l (fun p => upd pe (64 * s0 + t) (pe (64 * s0 + t) + 1) (64 * s0 + p))) (fun p => upd ca (64 * s0 + t) (ca (64 * s0 + t) + 1) (64 * s0 + p)) := by
      refine pq_U_more k1 (fun p hp z => ?_)
      show 0 < (upd ca (64 * s0 + t) (ca (64 * s0 + t) + 1) (64 * s0 + p)).toInt
      by_cases e : p = t
      · rw [e, pk_us, eb, nI_1, nI_toInt (by omega)]; omega
      · rw [pk_un (by omega)]; exact z
    refine pq_U_drop (c := o) (by omega) k2 ho ?_ (fun p hp e => ?_) (fun p hp e => ?_)
    · exact pq_D_shift (g := fun p => upd pe (64 * s0 + t) (pe (64 * s0 + t) + 1) (64 * s0 + p)) (g' := fun p => pe' (64 * s0 + p)) (by show pe' (64 * s0 + o) = upd pe (64 * s0 + t) (pe (64 * s0 + t) + 1) (64 * s0 + o) + (-1); rw [e2, at_o, pk_un (by omega)]) l
    · refine pq_D_same (g := fun p => upd pe (64 * s0 + t) (pe (64 * s0 + t) + 1) (64 * s0 + p)) (g' := fun p => pe' (64 * s0 + p)) ?_ l
      show pe' (64 * s0 + p) = upd pe (64 * s0 + t) (pe (64 * s0 + t) + 1) (64 * s0 + p)
      rw [e2]
      by_cases x : p = t
      · rw [x, at_t, pk_us]
      · rw [at_n _ _ _ _ (by omega) (by omega), pk_un (by omega)]
    · show ca' (64 * s0 + p) = upd ca (64 * s0 + t) (ca (64 * s0 + t) + 1) (64 * s0 + p)
      rw [e1]
      by_cases x : p = t
      · rw [x, at_t, pk_us]
      · rw [at_n _ _ _ _ (by omega) (by omega), pk_un (by omega)]
end
section
theorem pq_ring2 {v S b R : Int32} (h : v + (S + b) = R) : v + b + S = R := by
  rw [← h, Int32.add_assoc, Int32.add_comm b S]
theorem pq_J_deliver {W j s0 r0 : Nat} {ms ca pe vi bc bs ec ep ed : Nat → Int32} (J : pq_J W j ms ca pe vi bc bs ec ep ed) (hs : s0 < W) (hr : r0 < W) :
    bc (4 * s0 + r0) = 0 ∨ ∃ a l, pt_ch (a :: l) (4 * s0 + r0) bc bs ec ∧
      pq_J W j ms ca pe (pt_vw ep ed (32 * (4 * s0 + r0)) (64 * r0) vi a) (upd bc (4 * s0 + r0) (nI l.length)) (pt_sh 1 (32 * (4 * s0 + r0)) bs l.length) (upd ec (4 * s0 + r0) (nI (pt_sum l))) (pt_sh a (32 * (4 * s0 + r0)) ep (pt_sum l)) (pt_sh a (32 * (4 * s0 + r0)) ed (pt_sum l)) := by
  obtain ⟨g1, g2, g3, g4, L, B, g5, g7, g6⟩ := J
  have k0 := g5 (4 * s0 + r0) (by omega)
  have u0 := g7 s0 hs r0 hr
  cases hL : L (4 * s0 + r0) with
  | nil =>
    rw [hL] at k0
    exact Or.inl k0.1.2.2.1
  | cons a l =>
    rw [hL] at k0
    cases hB : B (4 * s0 + r0) with
    | nil => rw [hB] at k0; exact k0.2.elim
    | cons B0 Bs =>
      rw [hB] at k0 u0
      obtain ⟨c0, b0⟩ := k0
      have hsum : a + pt_sum l ≤ 32 := c0.2.1
      have hlen : l.length ≤ pt_sum l := pt_len_sum (pt_all1_c c0.1).2
      refine Or.inr ⟨a, l, c0, g1, g2, g3, pt_sh_in g4 _, fun c => if c = 4 * s0 + r0 then l else L c, fun c => if c = 4 * s0 + r0 then Bs else B c, fun c hc => ?_, fun s hs' r hr' => ?_, fun r hr' p hp => ?_⟩
      · dsimp only
        by_cases e : c = 4 * s0 + r0
        · rw [if_pos e, if_pos e, e]
          refine ⟨pt_ch_tail c0 pk_us pk_us (fun j hj => pt_sh_at hj), pq_bat_cong (o := 32 * (4 * s0 + r0) + a) (fun j hj => ?_) b0.2⟩
          rw [pt_sh_at hj, pt_sh_at hj, show 32 * (4 * s0 + r0) + j + a = 32 * (4 * s0 + r0) + a + j by omega]
          exact ⟨rfl, rfl⟩
        · rw [if_neg e, if_neg e]
          obtain ⟨x, y⟩ := g5 c hc
          have hxl := pt_ch_len x
          have hxs := x.2.1
          refine ⟨pt_ch_cong x (pk_un e) (pk_un e) (fun j hj => ?_), pq_bat_cong (fun j hj => ?_) y⟩
          · rcases Nat.lt_or_gt_of_ne e with q | q
            · exact pt_sh_lt (by omega)
            · exact pt_sh_ge (by omega)
          · rcases Nat.lt_or_gt_of_ne e with q | q
            · exact ⟨pt_sh_lt (by omega), pt_sh_lt (by omega)⟩
            · exact ⟨pt_sh_ge (by omega), pt_sh_ge (by omega)⟩
      · dsimp only
        by_cases e : 4 * s + r = 4 * s0 + r0
        · rw [if_pos e, show s = s0 by omega]
          exact u0.2
        · rw [if_neg e]
          exact g7 s hs' r hr'
      · by_cases e : r = r0
        · subst e
          rw [pq_vw_at, ← b0.1 p hp]
          apply pq_ring2
          rw [← g6 r hr' p hp]
          congr 1
          symm
          refine pq_is_one (s := s0) ?_ hs (fun i hi hne => ?_)
          · dsimp only
            rw [if_pos rfl, hB]
            exact Int32.add_comm _ _
          · dsimp only
            rw [if_neg (by omega)]
        · rw [pq_vw_out g4 (by omega), ← g6 r hr' p hp]
          congr 1
          refine pq_is_cong (fun i hi => ?_)
          dsimp only
          rw [if_neg (by omega)]
theorem pq_bat_bL {pend : Nat → Int32} {w n : Nat} {Ls : Nat → List Nat} {Bs : Nat → List (Nat → Int32)} {bc bs ec ep ed : Nat → Int32} (hw : w < 4) (hn : 1 ≤ n) (hp : pt_cnt pend (64 * w) 64 = n)
    (h : ∀ c, c < 16 → pt_ch (Ls c) c bc bs ec) (hb : ∀ c, c < 16 → pq_bat ep ed (32 * c) (Ls c) (Bs c)) :
    ∀ {R : Nat}, R ≤ 4 → (∀ r, r < R → pt_sum (Ls (4 * w + r)) + n ≤ 32) → ∀ c, c < 16 → pq_bat (pt_bep pend w n ec ep R) (pt_bed pend w n ec ed R) (32 * c) (pt_bL w n Ls R c) (if 4 * w ≤ c ∧ c < 4 * w + R then Bs c ++ [fun p => pend (64 * w + p)] else Bs c) := by
  intro R
  induction R with
  | zero =>
    intro _ _ c hc
    show pq_bat ep ed (32 * c) (if 4 * w ≤ c ∧ c < 4 * w + 0 then Ls c ++ [n] else Ls c) _
    rw [if_neg (by omega), if_neg (by omega)]
    exact hb c hc
  | succ R ih =>
    intro hR hr c hc
    have k := ih (by omega) (fun r hr' => hr r (by omega))
    have kc := pt_bch hw hn h (R := R) (by omega) (fun r hr' => hr r (by omega))
    have k0 := kc (4 * w + R) (by omega)
    rw [pt_bL_at] at k0
    have hroom := hr R (by omega)
    have e1 : (pt_bec w n ec R (4 * w + R)).toNatClampNeg = pt_sum (Ls (4 * w + R)) := by rw [k0.2.2.2.1, nI_clamp (by omega)]
    show pq_bat (pt_ep pend (64 * w) (32 * (4 * w + R) + (pt_bec w n ec R (4 * w + R)).toNatClampNeg) (pt_bep pend w n ec ep R) 64) (pt_ed pend (64 * w) (32 * (4 * w + R) + (pt_bec w n ec R (4 * w + R)).toNatClampNeg) (pt_bed pend w n ec ed R) 64) _ _ _
    rw [e1, pt_bL_s]
    by_cases e : c = 4 * w + R
    · subst e
      have kk := k (4 * w + R) hc
      rw [pt_bL_at, if_neg (by omega)] at kk
      rw [if_pos rfl, pt_bL_at, if_pos (by omega)]
      refine pq_bat_app (pq_bat_cong (fun j hj => ⟨pq_ep_out (by omega), pq_ed_out (by omega)⟩) kk) (fun p hp' => ?_)
      rw [← hp, pq_acc_app (Nat.le_refl 64), if_pos hp']
    · have kk := k c hc
      rw [if_neg e]
      have hx := (kc c hc).2.1
      have e2 : (if 4 * w ≤ c ∧ c < 4 * w + (R + 1) then Bs c ++ [fun p => pend (64 * w + p)] else Bs c) = (if 4 * w ≤ c ∧ c < 4 * w + R then Bs c ++ [fun p => pend (64 * w + p)] else Bs c) := by
        by_cases q : 4 * w ≤ c ∧ c < 4 * w + R
        · rw [if_pos q, if_pos (by omega)]
        · rw [if_neg q, if_neg (by omega)]
      rw [e2]
      refine pq_bat_cong (fun j hj => ?_) kk
      rcases Nat.lt_or_gt_of_ne e with q | q
      · exact ⟨pq_ep_out (by omega), pq_ed_out (by omega)⟩
      · exact ⟨pq_ep_out (by omega), pq_ed_out (by omega)⟩
theorem pq_J_bcast {W j w n : Nat} {ms ca pe vi bc bs ec ep ed : Nat → Int32} (J : pq_J W j ms ca pe vi bc bs ec ep ed) (hw : w < W) (hn : 1 ≤ n) (hp : pt_cnt pe (64 * w) 64 = n) (hroom : ∀ r l, r < W → pt_ch l (4 * w + r) bc bs ec → pt_sum l + n ≤ 32) :
    pq_J W j ms ca (pt_clr (64 * w) pe 64) vi (pt_bbc w bc W) (pt_bbs w n bc bs W) (pt_bec w n ec W) (pt_bep pe w n ec ep W) (pt_bed pe w n ec ed W) := by
  obtain ⟨g1, g2, g3, g4, L, B, g5, g7, g6⟩ := J
  have hr : ∀ r, r < W → pt_sum (L (4 * w + r)) + n ≤ 32 := fun r hr => hroom r _ hr (g5 (4 * w + r) (by omega)).1
  have z0 : ∀ p, p < 64 → pt_clr (64 * w) pe 64 (64 * w + p) = 0 := fun p hp => pt_clr_at hp
  have zn : ∀ s, s ≠ w → ∀ p, p < 64 → pt_clr (64 * w) pe 64 (64 * s + p) = pe (64 * s + p) := fun s hs p hp => pt_clr_out (by omega)
  refine ⟨g1, g2, g3, pt_bep_in g4 W, pt_bL w n L W, fun c => if 4 * w ≤ c ∧ c < 4 * w + W then B c ++ [fun p => pe (64 * w + p)] else B c, fun c hc => ⟨?_, ?_⟩, fun s hs r hr' => ?_, fun r hr' p hp' => ?_⟩
  · exact pt_bch (by omega) hn (fun c hc => (g5 c hc).1) (by omega) hr c hc
  · exact pq_bat_bL (by omega) hn hp (fun c hc => (g5 c hc).1) (fun c hc => (g5 c hc).2) (by omega) hr c hc
  · dsimp only
    by_cases e : s = w
    · subst e
      rw [if_pos (by omega)]
      exact pq_up_app z0 _ (g7 s hs r hr')
    · rw [if_neg (by omega)]
      exact pq_up_cong (Nat.le_refl j) (fun _ _ => rfl) (zn s e) (g7 s hs r hr')
  · rw [← g6 r hr' p hp']
    congr 1
    refine pq_is_cong (fun s hs => ?_)
    dsimp only
    by_cases e : s = w
    · subst e
      rw [if_pos (by omega), pq_D_same (g := fun _ => 0) (g' := fun p => pt_clr (64 * s) pe 64 (64 * s + p)) (z0 p hp') _, pq_D_app]
    · rw [if_neg (by omega)]
      exact pq_D_same (g := fun p => pe (64 * s + p)) (g' := fun p => pt_clr (64 * w) pe 64 (64 * s + p)) (zn s e p hp') _
/-- safety: what occurs is within every worker's view -/
theorem pq_J_safe {W j : Nat} {ms ca pe vi bc bs ec ep ed : Nat → Int32} (hj : j < 900) (J : pq_J W j ms ca pe vi bc bs ec ep ed) {r q : Nat} (hr : r < W) (hq : q < 64) (ho : ¬ ms q = 0 ∨ ∃ s, s < W ∧ ¬ ca (64 * s + q) = 0) : ∃ p, p < 64 ∧ pq_le p q ∧ 0 < (vi (64 * r + p)).toInt := by
  obtain ⟨g1, g2, g3, g4, L, B, g5, g7, g6⟩ := J
  have hb : ∀ (f : Nat → Int32), (∀ i, ∃ a, a ≤ j + 1 ∧ f i = nI a) → ∀ i, 0 ≤ (f i).toInt ∧ (f i).toInt ≤ 1000 := by
    intro f hf i
    obtain ⟨a, ha, e⟩ := hf i
    rw [e, nI_toInt (by omega)]
    omega
  have hpos : ∀ (f : Nat → Int32), (∀ i, ∃ a, a ≤ j + 1 ∧ f i = nI a) → ∀ i, ¬ f i = 0 → 0 < (f i).toInt := by
    intro f hf i hne
    obtain ⟨a, ha, e⟩ := hf i
    rw [e] at hne ⊢
    rw [nI_toInt (by omega)]
    have : a ≠ 0 := fun z => hne (by rw [z]; rfl)
    omega
  refine pq_safe (W := W) (j := j) (m := ms) (v := fun p => vi (64 * r + p)) (C := fun s p => ca (64 * s + p)) (D := fun s => pq_D (B (4 * s + r)) (fun p => pe (64 * s + p))) g1.2 (by omega) (fun p _ => hb ms g2 p) (fun s _ p _ => hb ca g3 _) (fun s hs => pq_up_h (g7 s hs r hr)) (fun p hp => g6 r hr p hp) hq ?_
  rcases ho with z | ⟨s, hs, z⟩
  · exact Or.inl (hpos ms g2 q z)
  · exact Or.inr ⟨s, hs, hpos ca g3 _ z⟩
/-- quiet, and nothing occurs: the views are 0 -/
theorem pq_J_quiet {W j : Nat} {ms ca pe vi bc bs ec ep ed : Nat → Int32} (J : pq_J W j ms ca pe vi bc bs ec ep ed) (hp : ∀ s, s < W → ∀ p, p < 64 → pe (64 * s + p) = 0) (hb : ∀ c, c < 16 → bc c = 0) (hm : ∀ p, p < 64 → ms p = 0) (hc : ∀ s, s < W → ∀ p, p < 64 → ca (64 * s + p) = 0) {r p : Nat} (hr : r < W) (hpp : p < 64) : vi (64 * r + p) = 0 := by
  obtain ⟨g1, g2, g3, g4, L, B, g5, g7, g6⟩ := J
  have k := g6 r hr p hpp
  have z : ∀ (g : Nat → Int32) (n : Nat), (∀ i, i < n → g i = 0) → pq_is g n = 0 := by
    intro g n h
    induction n with
    | zero => rfl
    | succ n ih =>
      show pq_is g n + g n = 0
      rw [ih (fun i hi => h i (by omega)), h n (by omega)]
      rfl
  rw [z _ W (fun s hs => ?_), z _ W (fun s hs => hc s hs p hpp), hm p hpp, Int32.add_zero] at k
  · exact k
  · obtain ⟨x, y⟩ := g5 (4 * s + r) (by omega)
    have e : L (4 * s + r) = [] := by
      have h1 := x.2.2.1
      have h2 := pt_ch_len x
      rw [hb _ (by omega), ← nI_0, nI_eq (by omega) (by omega)] at h1
      exact List.eq_nil_of_length_eq_zero h1.symm
    rw [e] at y
    cases hB : B (4 * s + r) with
    | nil => exact hp s hs p hpp
    | cons b l => rw [hB] at y; exact y.elim
end
section
/-! a frontier is empty where the view has no count above 0, and only there -/
theorem pq_sz_0 {L : Nat → Nat} : ∀ {e : Nat}, pt_sz L e = 0 → pt_low L e = 5 ∧ ∀ e', e' < e → 5 ≤ L e' := by
  intro e
  induction e with
  | zero => intro _; exact ⟨rfl, fun e' h => absurd h (by omega)⟩
  | succ e ih =>
    intro h
    by_cases z : L e < pt_low L e
    · rw [pt_sz_t z] at h; omega
    · rw [pt_sz_f z] at h
      obtain ⟨h1, h2⟩ := ih h
      rw [pt_low_f z]
      refine ⟨h1, fun e' he => ?_⟩
      by_cases x : e' = e
      · rw [x]; omega
      · exact h2 e' (by omega)
theorem pq_sz_z {L : Nat → Nat} (h : ∀ e, 5 ≤ L e) : ∀ e, pt_sz L e = 0 := by
  intro e
  induction e with
  | zero => rfl
  | succ e ih =>
    have h1 := pt_low_le L e
    have h2 := h e
    rw [pt_sz_f (by omega), ih]
theorem pq_front_pos {vi : Nat → Int32} {r p : Nat} (hp : p < 64) (h : 0 < vi (64 * r + p)) : 0 < pt_sz (pt_L vi r (p / 16)) 4 := by
  rcases Nat.eq_zero_or_pos (pt_sz (pt_L vi r (p / 16)) 4) with z | z
  · have k := (pq_sz_0 z).2 (p / 4 % 4) (by omega)
    have m : pt_M vi r (p / 16) (p / 4 % 4) (p % 4) := by
      refine ⟨p / 16, p % 4, by omega, by omega, ?_, ?_⟩
      · rw [pq_K00 _ (by omega)]; rfl
      · rw [show 16 * (p / 16) + 4 * (p / 4 % 4) + p % 4 = p by omega]; exact h
    exact absurd m ((pt_L_s vi r (p / 16) (p / 4 % 4)).2.2 (p % 4) (by omega))
  · exact z
theorem pq_front_0 {vi : Nat → Int32} {r o : Nat} (h : ∀ p, p < 64 → vi (64 * r + p) = 0) (e : Nat) (he : e ≤ 4) : pt_sz (pt_L vi r o) e = 0 := by
  have key : ∀ e, e < 4 → 5 ≤ pt_L vi r o e := by
    intro e he
    rcases Nat.lt_or_ge (pt_L vi r o e) 5 with z | z
    · obtain ⟨a, q, h1, h2, _, h4⟩ := (pt_L_s vi r o e).2.1 z
      rw [h _ (by omega)] at h4
      exact absurd h4 (by decide)
    · exact z
  induction e with
  | zero => rfl
  | succ e ih =>
    have h1 := pt_low_le (pt_L vi r o) e
    have h2 := key e (by omega)
    rw [pt_sz_f (by omega), ih (by omega)]
end
section
/-! each call keeps the invariant -/
theorem pq_le_of {a b e e' r r' : Nat} (ha : a < 4) (hb : b < 4) (he : e < 4) (he' : e' < 4) (hr : r < 4) (hr' : r' < 4) (h1 : e ≤ e') (h2 : r + pt_K a b ≤ r') : pq_le (16 * a + 4 * e + r) (16 * b + 4 * e' + r') := by
  refine ⟨by omega, ?_⟩
  rw [show (16 * a + 4 * e + r) % 4 = r by omega, show (16 * a + 4 * e + r) / 16 = a by omega, show (16 * b + 4 * e' + r') / 16 = b by omega, show (16 * b + 4 * e' + r') % 4 = r' by omega]
  exact h2
theorem pl_Kd : ∀ d, d < 4 → pt_K (pt_fr d) (pt_to d) = (if d = 2 then 1 else 0) ∧ pt_fr d ≠ pt_to d := by decide +kernel
theorem pl_lt {d e r : Nat} (hd : d < 4) (he : e < 4) (hr : r < 4) (h3 : pt_r2 d r ≤ 3) : pq_lt (16 * pt_fr d + 4 * e + r) (16 * pt_to d + 4 * e + pt_r2 d r) := by
  have hf := pt_fr_lt d
  have ht := pt_to_lt d
  obtain ⟨k1, k2⟩ := pl_Kd d hd
  refine ⟨pq_le_of (by omega) ht he he hr (by omega) (Nat.le_refl e) ?_, by omega⟩
  rw [k1]
  unfold pt_r2
  by_cases z : d = 2
  · rw [if_pos z, if_pos z]; omega
  · rw [if_neg z, if_neg z]; omega
section
variable {ms ca pe vi bc bs ec ep ed : Nat → Int32} {W j : Nat}
theorem pl_send {post : Int32 → St2 → Prop} {w d e r : Nat} (hj : j < 890) (J : pq_J W j ms ca pe vi bc bs ec ep ed) (hw : w < W) (hd : d < 4) (he : e < 4) (hr : r < 4)
    (h : ∀ x ms' ca' pe' vi' bc' bs' ec' ep' ed', pq_J W (j + 2) ms' ca' pe' vi' bc' bs' ec' ep' ed' → post x (nI W, ms', ca', pe', vi', bc', bs', ec', ep', ed')) : wpX_send post (nI W, ms, ca, pe, vi, bc, bs, ec, ep, ed) (nI w) (nI d) (nI e) (nI r) := by
  have same := pq_J_mono (show j ≤ j + 2 by omega) J
  have hf := pt_fr_lt d
  have ht := pt_to_lt d
  refine px_send J.1.2 hw hd he hr (fun _ => h _ _ _ _ _ _ _ _ _ _ same) (fun _ _ => h _ _ _ _ _ _ _ _ _ _ same) (fun _ _ _ => h _ _ _ _ _ _ _ _ _ _ same) (fun hc h3 _ => h _ _ _ _ _ _ _ _ _ _ ?_)
  exact pq_J_mono (Nat.le_succ _) (pq_J_send (f := 16 * pt_fr d + 4 * e + r) (t := 16 * pt_to d + 4 * e + pt_r2 d r) (by omega) J hw (by omega) (by omega) (pl_lt hd he hr h3) hc rfl rfl)
theorem pl_recv {post : Int32 → St2 → Prop} {w a e r : Nat} (hj : j < 890) (J : pq_J W j ms ca pe vi bc bs ec ep ed) (hw : w < W) (ha : a < 4) (he : e < 4) (hr : r < 4)
    (h : ∀ x ms' ca' pe' vi' bc' bs' ec' ep' ed', pq_J W (j + 2) ms' ca' pe' vi' bc' bs' ec' ep' ed' → post x (nI W, ms', ca', pe', vi', bc', bs', ec', ep', ed')) : wpX_receive post (nI W, ms, ca, pe, vi, bc, bs, ec, ep, ed) (nI w) (nI a) (nI e) (nI r) := by
  have same := pq_J_mono (show j ≤ j + 2 by omega) J
  refine px_receive J.1.2 hw ha he hr (fun _ => h _ _ _ _ _ _ _ _ _ _ same) (fun hc => h _ _ _ _ _ _ _ _ _ _ ?_)
  exact pq_J_mono (Nat.le_succ _) (pq_J_recv (c := 16 * a + 4 * e + r) (by omega) J hw (by omega) hc (by rw [Int32.sub_eq_add_neg]) rfl)
theorem pl_drop {post : Int32 → St2 → Prop} {w a e r : Nat} (hj : j < 890) (J : pq_J W j ms ca pe vi bc bs ec ep ed) (hw : w < W) (ha : a < 4) (he : e < 4) (hr : r < 4)
    (h : ∀ x ms' ca' pe' vi' bc' bs' ec' ep' ed', pq_J W (j + 2) ms' ca' pe' vi' bc' bs' ec' ep' ed' → post x (nI W, ms', ca', pe', vi', bc', bs', ec', ep', ed')) : wpX_drop post (nI W, ms, ca, pe, vi, bc, bs, ec, ep, ed) (nI w) (nI a) (nI e) (nI r) := by
  have same := pq_J_mono (show j ≤ j + 2 by omega) J
  refine px_drop J.1.2 hw ha he hr (fun _ => h _ _ _ _ _ _ _ _ _ _ same) (fun _ _ => h _ _ _ _ _ _ _ _ _ _ same) (fun hc _ => h _ _ _ _ _ _ _ _ _ _ ?_)
  exact pq_J_mono (Nat.le_succ _) (pq_J_drop (c := 16 * a + 4 * e + r) (by omega) J hw (by omega) hc (by rw [Int32.sub_eq_add_neg]) (by rw [Int32.sub_eq_add_neg]))
theorem pl_adv {post : Int32 → St2 → Prop} {w e : Nat} (hj : j < 890) (J : pq_J W j ms ca pe vi bc bs ec ep ed) (hw : w < W) (he : e < 4)
    (h : ∀ x ms' ca' pe' vi' bc' bs' ec' ep' ed', pq_J W (j + 2) ms' ca' pe' vi' bc' bs' ec' ep' ed' → post x (nI W, ms', ca', pe', vi', bc', bs', ec', ep', ed')) : wpX_advanceInput post (nI W, ms, ca, pe, vi, bc, bs, ec, ep, ed) (nI w) (nI e) := by
  have same := pq_J_mono (show j ≤ j + 2 by omega) J
  refine px_adv J.1.2 hw he (fun _ => h _ _ _ _ _ _ _ _ _ _ same) (fun _ _ => h _ _ _ _ _ _ _ _ _ _ same) (fun _ _ _ => h _ _ _ _ _ _ _ _ _ _ same) (fun hc h3 _ => h _ _ _ _ _ _ _ _ _ _ ?_)
  have hlt : pq_lt (4 * e) (4 * (e + 1)) := by
    refine ⟨⟨by omega, ?_⟩, by omega⟩
    rw [show 4 * e / 16 = 0 by omega, show 4 * (e + 1) / 16 = 0 by omega, pq_K00 0 (by omega)]
    omega
  exact pq_J_adv (o := 4 * e) (t := 4 * (e + 1)) (by omega) J hw (by omega) (by omega) hlt hc (by rw [pk_un (show 64 * w + 4 * (e + 1) ≠ 64 * w + 4 * e by omega), Int32.sub_eq_add_neg]) (by rw [pk_un (show 64 * w + 4 * (e + 1) ≠ 64 * w + 4 * e by omega), Int32.sub_eq_add_neg])
theorem pl_bcast {post : Int32 → St2 → Prop} {w : Nat} (J : pq_J W j ms ca pe vi bc bs ec ep ed) (hw : w < W)
    (h : ∀ x ms' ca' pe' vi' bc' bs' ec' ep' ed', pq_J W (j + 2) ms' ca' pe' vi' bc' bs' ec' ep' ed' → post x (nI W, ms', ca', pe', vi', bc', bs', ec', ep', ed')) : wpX_broadcast post (nI W, ms, ca, pe, vi, bc, bs, ec, ep, ed) (nI w) := by
  have same := pq_J_mono (show j ≤ j + 2 by omega) J
  have hle := pt_cnt_le pe (64 * w) 64
  have hJ := J
  obtain ⟨g1, g2, g3, g4, L, B, g5, g7, g6⟩ := J
  refine px_broadcast g1.2 hw rfl (fun r hr => ⟨L (4 * w + r), (g5 (4 * w + r) (by omega)).1⟩) (fun _ => h _ _ _ _ _ _ _ _ _ _ same) (fun _ _ => h _ _ _ _ _ _ _ _ _ _ same) (fun hn hr => h _ _ _ _ _ _ _ _ _ _ ?_)
  refine pq_J_mono (by omega) (pq_J_bcast hJ hw hn rfl (fun r l hr' hl => ?_))
  have hq := hr r hr'
  rw [hl.2.2.2.1, pt_roomE hl.2.1 hle] at hq
  exact hq
theorem pl_deliver {post : Int32 → St2 → Prop} {s r : Nat} (J : pq_J W j ms ca pe vi bc bs ec ep ed) (hs : s < W) (hr : r < W)
    (h : ∀ x ms' ca' pe' vi' bc' bs' ec' ep' ed', pq_J W (j + 2) ms' ca' pe' vi' bc' bs' ec' ep' ed' → post x (nI W, ms', ca', pe', vi', bc', bs', ec', ep', ed')) : wpX_deliver post (nI W, ms, ca, pe, vi, bc, bs, ec, ep, ed) (nI s) (nI r) := by
  have same := pq_J_mono (show j ≤ j + 2 by omega) J
  rcases pq_J_deliver J hs hr with h0 | ⟨a, l, hc, J'⟩
  · exact px_deliver0 J.1.2 hs hr h0 (h _ _ _ _ _ _ _ _ _ _ same)
  · exact px_deliver J.1.2 hs hr J.2.2.2.1 hc (h _ _ _ _ _ _ _ _ _ _ (pq_J_mono (by omega) J'))
end
/-! the start -/
def pt_i0 (x : Int32) : Nat → Nat → Int32
  | 0 => fun _ => 0
  | w + 1 => upd (pt_i0 x w) (64 * w) x
theorem pl_i0 (x : Int32) {s p : Nat} (hp : p < 64) : ∀ W, pt_i0 x W (64 * s + p) = if p = 0 ∧ s < W then x else 0 := by
  intro W
  induction W with
  | zero => rw [if_neg (by omega)]; rfl
  | succ W ih =>
    show upd (pt_i0 x W) (64 * W) x (64 * s + p) = _
    by_cases e : 64 * s + p = 64 * W
    · rw [e, pk_us, if_pos (by omega)]
    · rw [pk_un e, ih]
      by_cases z : p = 0 ∧ s < W
      · rw [if_pos z, if_pos (by omega)]
      · rw [if_neg z, if_neg (by omega)]
theorem pl_i0_v (x : Int32) : ∀ (w i : Nat), pt_i0 x w i = 0 ∨ pt_i0 x w i = x := by
  intro w
  induction w with
  | zero => intro i; exact Or.inl rfl
  | succ w ih =>
    intro i
    show upd (pt_i0 x w) (64 * w) x i = 0 ∨ upd (pt_i0 x w) (64 * w) x i = x
    by_cases e : i = 64 * w
    · rw [e, pk_us]; exact Or.inr rfl
    · rw [pk_un e]; exact ih i
theorem pl_is1 : ∀ n, pq_is (fun _ => 1) n = nI n := by
  intro n
  induction n with
  | zero => rfl
  | succ n ih =>
    show pq_is (fun _ => 1) n + 1 = nI (n + 1)
    rw [ih, nI_1]
theorem pl_is0 : ∀ n, pq_is (fun _ => 0) n = 0 := by
  intro n
  induction n with
  | zero => rfl
  | succ n ih =>
    show pq_is (fun _ => 0) n + 0 = 0
    rw [ih]
    rfl
theorem pl_J0 {W : Nat} (h1 : 1 ≤ W) (h4 : W ≤ 4) : pq_J W 0 (fun _ => 0) (pt_i0 1 W) (fun _ => 0) (pt_i0 (nI W) W) (fun _ => 0) (fun _ => 0) (fun _ => 0) (fun _ => 0) (fun _ => 0) := by
  refine ⟨⟨h1, h4⟩, fun _ => ⟨0, by omega, rfl⟩, fun i => ?_, fun _ => ⟨0, by omega, rfl⟩, fun _ => [], fun _ => [], fun c hc => ⟨⟨fun a ha => absurd ha List.not_mem_nil, Nat.zero_le _, rfl, rfl, trivial⟩, trivial⟩, fun s hs r hr => pq_U_0 (fun _ _ => rfl), fun r hr p hp => ?_⟩
  · rcases pl_i0_v 1 W i with z | z
    · exact ⟨0, by omega, z⟩
    · exact ⟨1, by omega, z⟩
  · rw [pl_i0 (nI W) hp W]
    have e0 : pq_is (fun s => pq_D [] (fun p => (fun _ => (0 : Int32)) (64 * s + p)) p) W = 0 := pl_is0 W
    rw [e0, Int32.add_zero, Int32.zero_add]
    by_cases z : p = 0
    · rw [if_pos ⟨z, hr⟩, pq_is_cong (g := fun _ => 1) (fun s hs => by rw [pl_i0 1 hp W, if_pos ⟨z, hs⟩]), pl_is1]
    · rw [if_neg (fun t => z t.1), pq_is_cong (g := fun _ => 0) (fun s hs => by rw [pl_i0 1 hp W, if_neg (fun t => z t.1)]), pl_is0]
theorem pt_x64 (w : Nat) : nI w * 64 = nI (64 * w) := by
  rw [show (64 : Int32) = nI 64 from rfl, pk_mul, Nat.mul_comm]
theorem pl_init {post : St2 → Prop} {W : Nat} (h1 : 1 ≤ W) (hW : W ≤ 4) (h : post (nI W, fun _ => 0, pt_i0 1 W, fun _ => 0, pt_i0 (nI W) W, fun _ => 0, fun _ => 0, fun _ => 0, fun _ => 0, fun _ => 0)) :
    wpX_init post 9 2400 0 (nI W) := by
  unfold wpX_init
  refine ⟨by omega, by omega, by omega, by omega, by omega, by omega, by omega, by omega, by omega, by omega, by omega, by omega, by omega, by omega, by omega, by omega, by omega, by omega, br_t (nI_le (a := 1) h1 (by omega)) (br_t (nI_le (b := 4) hW (by omega)) ?_)⟩
  refine loop_0 (fun k i (s : (Nat → Int32) × (Nat → Int32)) => wX_init_107 post 9 2400 9 2400 (nI W) k (nI i) (fun _ => 0) s.1 (fun _ => 0) s.2 (fun _ => 0) (fun _ => 0) (fun _ => 0) (fun _ => 0) (fun _ => 0)) (fun i s => s = (pt_i0 1 i, pt_i0 (nI W) i)) W (fun _ => 0, fun _ => 0) rfl ?_ ?_
  · rintro k s rfl
    exact pk_le W W (fun _ => h) (fun z => absurd z (by omega))
  · rintro k i s hi rfl hn
    refine pk_le W i (fun z => absurd z (by omega)) (fun _ => ?_)
    rw [pt_x64, nI_clamp (by omega)]
    have hv : vp_in (nI (64 * i)) 256 := vp_in_nI (by omega) (by omega)
    exact ⟨hv, nm_e ⟨hv, nm_e (nm_r (nI_1 i) (hn (_, _) rfl))⟩⟩
end
section
/-! the law: its checks after a step -/
theorem pl_b4 {i : Nat} (hi : i < 64) : nI i >>> ((4 : Int32) &&& 31) = nI (i / 16) := pk_shrN (n := i) (by omega) ((4 : Int32) &&& 31) 4 (by decide)
theorem pl_b2 {i : Nat} (hi : i < 64) : (nI i >>> ((2 : Int32) &&& 31)) &&& 3 = nI (i / 4 % 4) := by
  rw [show nI i >>> ((2 : Int32) &&& 31) = nI (i / 4) from pk_shrN (n := i) (by omega) ((2 : Int32) &&& 31) 2 (by decide)]
  exact pk_andN (n := i / 4) (by omega) 2 (by decide)
theorem pl_b0 {i : Nat} (hi : i < 64) : nI i &&& 3 = nI (i % 4) := pk_andN (n := i) (by omega) 2 (by decide)
theorem pl_and3 (x : Int32) : ∃ d, d < 4 ∧ x &&& 3 = nI d := pk_andE x 2 (by decide)
theorem pl_and63 (x : Int32) : ∃ d, d < 64 ∧ x &&& 63 = nI d := pk_andE x 6 (by decide)
theorem pl_and15 (x : Int32) : ∃ d, d < 16 ∧ x &&& 15 = nI d := pk_andE x 4 (by decide)
theorem pl_and255 (x : Int32) : ∃ d, d < 256 ∧ x &&& 255 = nI d := pk_andE x 8 (by decide)
theorem pl_orT : ∀ a, a < 4 → ∀ b, b < 16 → (nI a <<< ((4 : Int32) &&& 31)) ||| nI b = nI (16 * a + b) := by decide +kernel
theorem pl_or (x y : Int32) : ∃ q, q < 64 ∧ ((x &&& 3) <<< ((4 : Int32) &&& 31)) ||| (y &&& 15) = nI q := by
  obtain ⟨a, ha, e1⟩ := pl_and3 x
  obtain ⟨b, hb, e2⟩ := pl_and15 y
  exact ⟨16 * a + b, by omega, by rw [e1, e2]; exact pl_orT a ha b hb⟩
theorem pl_mod {W : Nat} (h1 : 1 ≤ W) (h4 : W ≤ 4) (x : Int32) : ∃ w, w < W ∧ (x &&& 255) - (x &&& 255) / nI W * nI W = nI w := by
  obtain ⟨a, ha, e⟩ := pl_and255 x
  exact ⟨a % W, Nat.mod_lt _ (by omega), by rw [e]; exact pk_rem (by omega) (by omega) (by omega)⟩
theorem pl_at (i : Nat) (hi : i < 64) : 16 * (i / 16) + 4 * (i / 4 % 4) + i % 4 = i := by omega
theorem pl_occ {m c : Nat → Int32} {p : Nat} : ∀ {w : Nat}, 0 < pt_occ m c p w → ¬ m p = 0 ∨ ∃ s, s < w ∧ ¬ c (64 * s + p) = 0 := by
  intro w
  induction w with
  | zero =>
    intro h
    refine Or.inl (fun z => ?_)
    have h' : 0 < (m p).toNatClampNeg := h
    rw [z] at h'
    exact absurd h' (by decide)
  | succ w ih =>
    intro h
    have h' : 0 < pt_occ m c p w + (c (64 * w + p)).toNatClampNeg := h
    by_cases z : c (64 * w + p) = 0
    · rw [z, show (0 : Int32).toNatClampNeg = 0 from rfl] at h'
      rcases ih (by omega) with g | ⟨s, hs, g⟩
      · exact Or.inl g
      · exact Or.inr ⟨s, by omega, g⟩
    · exact Or.inr ⟨w, by omega, z⟩
theorem pl_pos {x : Int32} (h : 0 < x.toInt) : 0 < x := by
  rw [Int32.lt_iff_toInt_lt, show (0 : Int32).toInt = 0 from rfl]
  exact h
section
variable {ms ca pe vi bc bs ec ep ed : Nat → Int32} {W j kc ks L : Nat} {xs : Nat → Int32} {post : Int32 → Prop} {J37 : Int32 → Int32 → (Nat → Int32) → (Nat → Int32) → (Nat → Int32) → (Nat → Int32) → (Nat → Int32) → (Nat → Int32) → (Nat → Int32) → (Nat → Int32) → (Nat → Int32) → Prop} {x3 : Int32}
theorem pl_595 {J537 : Int32 → Int32 → Prop} {x4 x10 s0 : Int32} {i : Nat} (hW : W ≤ 4) (hi : i < 64)
    (hcr : ¬ x10 = 0 → ∀ w, w < W → ∃ p, p < 64 ∧ ¬ vi (64 * w + p) ≤ 0 ∧ pt_cr p (i / 16) (i / 4 % 4) (i % 4))
    (h0 : (∀ w, w < W → ca (64 * w + i) = 0) → J537 s0 (nI (i + 1))) (h1 : (∃ w, w < W ∧ ¬ ca (64 * w + i) = 0) → J537 1 (nI (i + 1))) :
    ∃ k, wL_law_595 post L xs J37 J537 (nI W) x3 x4 (nI i) (nI (i / 16)) (nI (i / 4 % 4)) (nI (i % 4)) x10 kc ks (nI W) ms ca pe vi bc bs ec ep ed k s0 0 := by
  refine loop_0 (fun k w s => wL_law_595 post L xs J37 J537 (nI W) x3 x4 (nI i) (nI (i / 16)) (nI (i / 4 % 4)) (nI (i % 4)) x10 kc ks (nI W) ms ca pe vi bc bs ec ep ed k s (nI w)) (fun w s => (s = s0 ∧ ∀ w', w' < w → ca (64 * w' + i) = 0) ∨ (s = 1 ∧ ∃ w', w' < W ∧ ¬ ca (64 * w' + i) = 0)) W s0 (Or.inl ⟨rfl, fun w' h => absurd h (by omega)⟩) ?_ ?_
  · intro k s hs
    refine pk_le W W (fun _ => nm_r (nI_1 i) ?_) (fun z => absurd z (by omega))
    rcases hs with ⟨rfl, g⟩ | ⟨rfl, g⟩
    · exact h0 g
    · exact h1 g
  · intro k w s hw hs hn
    have look : wL_law_623 post L xs J37 J537 (wL_law_595 post L xs J37 J537 (nI W) x3 x4 (nI i) (nI (i / 16)) (nI (i / 4 % 4)) (nI (i % 4)) x10 kc ks (nI W) ms ca pe vi bc bs ec ep ed k) (nI W) x3 x4 s (nI i) (nI (i / 16)) (nI (i / 4 % 4)) (nI (i % 4)) x10 (nI w) kc ks (nI W) ms ca pe vi bc bs ec ep ed := by
      unfold wL_law_623
      refine px_capC hW hw (by omega) (by omega) (by omega) ?_
      rw [pl_at i hi]
      refine br_c (fun z => nm_r (nI_1 w) (hn _ ?_)) (fun z => nm_r (nI_1 w) (hn _ (Or.inr ⟨rfl, w, hw, z⟩)))
      rcases hs with ⟨rfl, g⟩ | ⟨rfl, g⟩
      · refine Or.inl ⟨rfl, fun w' hw' => ?_⟩
        by_cases e : w' = w
        · rw [e]; exact z
        · exact g w' (by omega)
      · exact Or.inr ⟨rfl, g⟩
    refine pk_le W w (fun z => absurd z (by omega)) (fun _ => br_c (fun _ => look) (fun z => ?_))
    refine px_canReach hW hw (by omega) (by omega) (by omega) (fun _ => br_f pt_10 look) (fun n => ?_)
    obtain ⟨p, hp, g1, g2⟩ := hcr z w hw
    exact absurd g2 (n p hp g1)
theorem pl_671 {J659 : Int32 → Int32 → Prop} {x4 x5 x6 : Int32} {w : Nat} (hW : W ≤ 4) (hw : w < W)
    (h0 : (∀ o, o < 4 → pt_sz (pt_L vi w o) 4 = 0) → x5 = 0 ∧ J659 x6 (nI (w + 1))) (h1 : (∃ o, o < 4 ∧ 0 < pt_sz (pt_L vi w o) 4) → J659 0 (nI (w + 1))) :
    ∃ k, wL_law_671 post L xs J37 J659 (nI W) x3 x4 x5 x6 (nI w) kc ks (nI W) ms ca pe vi bc bs ec ep ed k 0 0 := by
  refine loop_0 (fun k o s => wL_law_671 post L xs J37 J659 (nI W) x3 x4 x5 x6 (nI w) kc ks (nI W) ms ca pe vi bc bs ec ep ed k s (nI o)) (fun o s => (s = 0 ∧ ∀ o', o' < o → pt_sz (pt_L vi w o') 4 = 0) ∨ (s = 1 ∧ ∃ o', o' < 4 ∧ 0 < pt_sz (pt_L vi w o') 4)) 4 0 (Or.inl ⟨rfl, fun o' h => absurd h (by omega)⟩) ?_ ?_
  · intro k s hs
    refine pk_le 4 4 (fun _ => ?_) (fun z => absurd z (by omega))
    unfold wL_law_705
    rcases hs with ⟨rfl, g⟩ | ⟨rfl, g⟩
    · exact br_t rfl (br_t (h0 g).1 (nm_r (nI_1 w) (h0 g).2))
    · exact br_f pt_10 (br_c (fun _ => nm_r (nI_1 w) (h1 g)) (fun _ => br_f pt_10 (nm_r (nI_1 w) (h1 g))))
  · intro k o s ho hs hn
    have hle := pt_sz_le (pt_L vi w o) 4
    refine pk_le 4 o (fun z => absurd z (by omega)) (fun _ => px_fsize hW hw ho ?_)
    refine pk_le (pt_sz (pt_L vi w o) 4) 0 (fun z => nm_r (nI_1 o) (hn _ ?_)) (fun z => nm_r (nI_1 o) (hn _ (Or.inr ⟨rfl, o, ho, z⟩)))
    rcases hs with ⟨rfl, g⟩ | ⟨rfl, g⟩
    · refine Or.inl ⟨rfl, fun o' ho' => ?_⟩
      by_cases e : o' = o
      · rw [e]; omega
      · exact g o' (by omega)
    · exact Or.inr ⟨rfl, g⟩
theorem pl_659 {x5 : Int32} {t : Nat} (hj : j < 890) (J : pq_J W j ms ca pe vi bc bs ec ep ed)
    (hx : (x5 = 0 ∧ ∀ p, p < 64 → ms p = 0 ∧ ∀ w, w < W → ca (64 * w + p) = 0) ∨ (x5 = 1 ∧ ∃ p, p < 64 ∧ (¬ ms p = 0 ∨ ∃ w, w < W ∧ ¬ ca (64 * w + p) = 0)))
    (hJ : J37 (nI (t + 1)) (nI W) ms ca pe vi bc bs ec ep ed) : ∃ k, wL_law_659 post L xs J37 (nI W) x3 (nI t) x5 kc ks (nI W) ms ca pe vi bc bs ec ep ed k 1 0 := by
  have hW := J.1.2
  have hW1 := J.1.1
  have A : x5 = 1 → ∀ w, w < W → ∃ o, o < 4 ∧ 0 < pt_sz (pt_L vi w o) 4 := by
    intro e w hw
    rcases hx with ⟨z, _⟩ | ⟨_, p, hp, g⟩
    · rw [e] at z; exact absurd z pt_10
    · obtain ⟨q, hq, _, hv⟩ := pq_J_safe (by omega) J hw hp g
      exact ⟨q / 16, by omega, pq_front_pos hq (pl_pos hv)⟩
  refine loop_0 (fun k w s => wL_law_659 post L xs J37 (nI W) x3 (nI t) x5 kc ks (nI W) ms ca pe vi bc bs ec ep ed k s (nI w)) (fun w s => (s = 1 ∧ ∀ w', w' < w → ∀ o, o < 4 → pt_sz (pt_L vi w' o) 4 = 0) ∨ (s = 0 ∧ ∃ w', w' < W ∧ ∃ o, o < 4 ∧ 0 < pt_sz (pt_L vi w' o) 4)) W 1 (Or.inl ⟨rfl, fun w' h => absurd h (by omega)⟩) ?_ ?_
  · intro k s hs
    refine pk_le W W (fun _ => px_quiet hW (fun q1 q2 => br_f pt_10 (br_f ?_ (nm_r (nI_1 t) hJ))) (fun _ => br_t rfl (nm_r (nI_1 t) hJ))) (fun z => absurd z (by omega))
    intro e
    rcases hx with ⟨z, g⟩ | ⟨z, _⟩
    · rcases hs with ⟨y, _⟩ | ⟨_, w, hw, o, ho, y⟩
      · rw [y, z] at e; exact pt_10 e
      · have v0 : ∀ p, p < 64 → vi (64 * w + p) = 0 := fun p hp => pq_J_quiet J (fun s hs p hp => pt_cnt_0 (q1 s hs) p hp) q2 (fun p hp => (g p hp).1) (fun s hs p hp => (g p hp).2 s hs) hw hp
        rw [pq_front_0 v0 4 (Nat.le_refl 4)] at y
        omega
    · rcases hs with ⟨_, y⟩ | ⟨y, _⟩
      · obtain ⟨o, ho, q⟩ := A z 0 (by omega)
        rw [y 0 (by omega) o ho] at q
        omega
      · rw [y, z] at e; exact pt_10 e.symm
  · intro k w s hw hs hn
    refine pk_le W w (fun z => absurd z (by omega)) (fun _ => pl_671 hW hw (fun g => ⟨?_, hn _ ?_⟩) (fun g => hn _ (Or.inr ⟨rfl, w, hw, g⟩)))
    · rcases hx with ⟨z, _⟩ | ⟨z, _⟩
      · exact z
      · obtain ⟨o, ho, q⟩ := A z w hw
        rw [g o ho] at q
        omega
    · rcases hs with ⟨rfl, y⟩ | ⟨rfl, y⟩
      · refine Or.inl ⟨rfl, fun w' hw' o ho => ?_⟩
        by_cases e : w' = w
        · rw [e]; exact g o ho
        · exact y w' (by omega) o ho
      · exact Or.inr ⟨rfl, y⟩
theorem pl_check {t : Nat} (hj : j < 890) (J : pq_J W j ms ca pe vi bc bs ec ep ed) (hJ : J37 (nI (t + 1)) (nI W) ms ca pe vi bc bs ec ep ed) :
    ∃ k, wL_law_537 post L xs J37 (nI W) x3 (nI t) kc ks (nI W) ms ca pe vi bc bs ec ep ed k 0 0 := by
  have hW := J.1.2
  refine loop_0 (fun k i s => wL_law_537 post L xs J37 (nI W) x3 (nI t) kc ks (nI W) ms ca pe vi bc bs ec ep ed k s (nI i)) (fun i s => (s = 0 ∧ ∀ p, p < i → ms p = 0 ∧ ∀ w, w < W → ca (64 * w + p) = 0) ∨ (s = 1 ∧ ∃ p, p < 64 ∧ (¬ ms p = 0 ∨ ∃ w, w < W ∧ ¬ ca (64 * w + p) = 0))) 64 0 (Or.inl ⟨rfl, fun p h => absurd h (by omega)⟩) ?_ ?_
  · intro k s hs
    exact pk_le 64 64 (fun _ => pl_659 hj J hs hJ) (fun z => absurd z (by omega))
  · intro k i s hi hs hn
    have G : ∀ x10 : Int32, (¬ x10 = 0 → ∀ w, w < W → ∃ p, p < 64 ∧ ¬ vi (64 * w + p) ≤ 0 ∧ pt_cr p (i / 16) (i / 4 % 4) (i % 4)) →
        wpX_messages (fun r => (r = 0 → ∃ k', wL_law_595 post L xs J37 (wL_law_537 post L xs J37 (nI W) x3 (nI t) kc ks (nI W) ms ca pe vi bc bs ec ep ed k) (nI W) x3 (nI t) (nI i) (nI (i / 16)) (nI (i / 4 % 4)) (nI (i % 4)) x10 kc ks (nI W) ms ca pe vi bc bs ec ep ed k' s 0) ∧ (¬ r = 0 → ∃ k', wL_law_595 post L xs J37 (wL_law_537 post L xs J37 (nI W) x3 (nI t) kc ks (nI W) ms ca pe vi bc bs ec ep ed k) (nI W) x3 (nI t) (nI i) (nI (i / 16)) (nI (i / 4 % 4)) (nI (i % 4)) x10 kc ks (nI W) ms ca pe vi bc bs ec ep ed k' 1 0)) (nI W, ms, ca, pe, vi, bc, bs, ec, ep, ed) (nI (i / 16)) (nI (i / 4 % 4)) (nI (i % 4)) := by
      intro x10 hcr
      refine px_msgC (by omega) (by omega) (by omega) ?_
      rw [pl_at i hi]
      refine br_c (fun z => pl_595 hW hi hcr (fun g => hn _ ?_) (fun g => hn _ (Or.inr ⟨rfl, i, hi, Or.inr g⟩))) (fun z => pl_595 hW hi hcr (fun _ => hn _ (Or.inr ⟨rfl, i, hi, Or.inl z⟩)) (fun _ => hn _ (Or.inr ⟨rfl, i, hi, Or.inl z⟩)))
      rcases hs with ⟨rfl, y⟩ | ⟨rfl, y⟩
      · refine Or.inl ⟨rfl, fun p hp => ?_⟩
        by_cases e : p = i
        · rw [e]; exact ⟨z, g⟩
        · exact y p (by omega)
      · exact Or.inr ⟨rfl, y⟩
    refine pk_le 64 i (fun z => absurd z (by omega)) (fun _ => nm_r (pl_b4 hi) (nm_r (pl_b2 hi) (nm_r (pl_b0 hi) ?_)))
    refine px_couldArrive (k := j + 1) hW (by omega) (by omega) (by omega) (by omega) J.2.1 J.2.2.1 (fun a => G 1 (fun _ w hw => ?_)) (fun _ => G 0 (fun n => absurd rfl n))
    obtain ⟨p, hp, g1, g2⟩ := a
    obtain ⟨q, hq, l1, hv⟩ := pq_J_safe (by omega) J hw hp (pl_occ g1)
    have hle : pq_le p i := g2
    exact ⟨q, hq, Int32.not_le.mpr (pl_pos hv), pq_trans hq hp hi l1 hle⟩
/-! the law: a step -/
theorem pl_301 {x4 x9 x13 : Int32} {w q : Nat} (hj : j < 890) (J : pq_J W j ms ca pe vi bc bs ec ep ed) (hw : w < W) (hq : q < 64)
    (hK : ∀ ms' ca' pe' vi' bc' bs' ec' ep' ed', pq_J W (j + 2) ms' ca' pe' vi' bc' bs' ec' ep' ed' → ∃ k, wL_law_537 post L xs J37 (nI W) x3 x4 kc ks (nI W) ms' ca' pe' vi' bc' bs' ec' ep' ed' k 0 0) :
    wL_law_301 post L xs J37 (nI W) x3 x4 x9 (nI w) x13 (nI q) kc ks (nI W) ms ca pe vi bc bs ec ep ed := by
  have sd : ∀ d, d < 4 → wL_law_370 post L xs J37 (nI W) x3 x4 (nI w) (nI (q / 4 % 4)) (nI (q % 4)) (nI d) kc ks (nI W) ms ca pe vi bc bs ec ep ed := by
    intro d hd
    unfold wL_law_370
    exact pl_send hj J hw hd (by omega) (by omega) (fun _ _ _ _ _ _ _ _ _ _ J' => hK _ _ _ _ _ _ _ _ _ J')
  obtain ⟨d, hd, ed'⟩ := pl_and3 x9
  unfold wL_law_301
  refine nm_r (pl_b4 hq) (nm_r (pl_b2 hq) (nm_r (pl_b0 hq) (br_c (fun _ => br_c (fun _ => sd 0 (by omega)) (fun _ => br_c (fun _ => sd 1 (by omega)) (fun _ => br_c (fun _ => br_c (fun _ => sd 2 (by omega)) (fun _ => sd 3 (by omega))) (fun _ => ?_)))) (fun _ => br_c (fun _ => ?_) (fun _ => ?_)))))
  · rw [ed']; exact sd d hd
  · exact pl_recv hj J hw (by omega) (by omega) (by omega) (fun _ _ _ _ _ _ _ _ _ _ J' => hK _ _ _ _ _ _ _ _ _ J')
  · exact pl_drop hj J hw (by omega) (by omega) (by omega) (fun _ _ _ _ _ _ _ _ _ _ J' => hK _ _ _ _ _ _ _ _ _ J')
theorem pl_282 {x4 x8 x9 x13 x14 : Int32} {w : Nat} (hj : j < 890) (J : pq_J W j ms ca pe vi bc bs ec ep ed) (hw : w < W) (hx : x14 = -1 ∨ ∃ q, q < 64 ∧ x14 = nI q)
    (hK : ∀ ms' ca' pe' vi' bc' bs' ec' ep' ed', pq_J W (j + 2) ms' ca' pe' vi' bc' bs' ec' ep' ed' → ∃ k, wL_law_537 post L xs J37 (nI W) x3 x4 kc ks (nI W) ms' ca' pe' vi' bc' bs' ec' ep' ed' k 0 0) :
    wL_law_282 post L xs J37 (nI W) x3 x4 x8 x9 (nI w) x13 x14 kc ks (nI W) ms ca pe vi bc bs ec ep ed := by
  unfold wL_law_282
  rcases hx with rfl | ⟨q, hq, rfl⟩
  · obtain ⟨q, hq, e⟩ := pl_or x9 x8
    exact br_f (by decide) (nm_r e (pl_301 hj J hw hq hK))
  · exact br_t (nI_pos' (by omega)) (pl_301 hj J hw hq hK)
theorem pl_156 {x4 x8 x9 x12 x13 : Int32} {w : Nat} (hj : j < 890) (J : pq_J W j ms ca pe vi bc bs ec ep ed) (hw : w < W)
    (hK : ∀ ms' ca' pe' vi' bc' bs' ec' ep' ed', pq_J W (j + 2) ms' ca' pe' vi' bc' bs' ec' ep' ed' → ∃ k, wL_law_537 post L xs J37 (nI W) x3 x4 kc ks (nI W) ms' ca' pe' vi' bc' bs' ec' ep' ed' k 0 0) :
    ∃ k, wL_law_156 post L xs J37 (nI W) x3 x4 x8 x9 (nI w) x12 x13 kc ks (nI W) ms ca pe vi bc bs ec ep ed k (-1) 0 := by
  have hW := J.1.2
  refine loop_0 (fun k i s => wL_law_156 post L xs J37 (nI W) x3 x4 x8 x9 (nI w) x12 x13 kc ks (nI W) ms ca pe vi bc bs ec ep ed k s (nI i)) (fun i s => s = -1 ∨ ∃ q, q < 64 ∧ s = nI q) 64 (-1) (Or.inl rfl) ?_ ?_
  · intro k s hs
    exact pk_le 64 64 (fun _ => pl_282 hj J hw hs hK) (fun z => absurd z (by omega))
  · intro k i s hi hs hn
    obtain ⟨q, hq, e⟩ := pl_and63 (x12 + nI i)
    have hq' : (nI q : Int32) = -1 ∨ ∃ q', q' < 64 ∧ nI q = nI q' := Or.inr ⟨q, hq, rfl⟩
    have a251 : ∀ s', (s' = -1 ∨ ∃ q, q < 64 ∧ s' = nI q) → wL_law_251 post L xs J37 (wL_law_156 post L xs J37 (nI W) x3 x4 x8 x9 (nI w) x12 x13 kc ks (nI W) ms ca pe vi bc bs ec ep ed k) (nI W) x3 x4 x8 x9 (nI w) x12 x13 s' (nI i) (nI q) (nI (q / 16)) (nI (q / 4 % 4)) (nI (q % 4)) kc ks (nI W) ms ca pe vi bc bs ec ep ed := by
      intro s' hs'
      unfold wL_law_251
      refine br_c (fun _ => px_capC hW hw (by omega) (by omega) (by omega) (br_c (fun _ => nm_r (nI_1 i) (hn _ hs')) (fun _ => nm_r (nI_1 i) (hn _ hq')))) (fun _ => nm_r (nI_1 i) (hn _ hs'))
    have a228 : ∀ s', (s' = -1 ∨ ∃ q, q < 64 ∧ s' = nI q) → wL_law_228 post L xs J37 (wL_law_156 post L xs J37 (nI W) x3 x4 x8 x9 (nI w) x12 x13 kc ks (nI W) ms ca pe vi bc bs ec ep ed k) (nI W) x3 x4 x8 x9 (nI w) x12 x13 s' (nI i) (nI q) (nI (q / 16)) (nI (q / 4 % 4)) (nI (q % 4)) kc ks (nI W) ms ca pe vi bc bs ec ep ed := by
      intro s' hs'
      unfold wL_law_228
      exact br_c (fun _ => px_msgC (by omega) (by omega) (by omega) (br_c (fun _ => a251 _ hs') (fun _ => a251 _ hq'))) (fun _ => a251 _ hs')
    refine pk_le 64 i (fun z => absurd z (by omega)) (fun _ => br_c (fun _ => pl_282 hj J hw hs hK) (fun _ => nm_r e (nm_r (pl_b4 hq) (nm_r (pl_b2 hq) (nm_r (pl_b0 hq) ?_)))))
    exact br_c (fun _ => br_c (fun _ => a228 _ hs) (fun _ => px_capC hW hw (by omega) (by omega) (by omega) (br_c (fun _ => a228 _ hs) (fun _ => a228 _ hq')))) (fun _ => a228 _ hs)
theorem pl_442 {x4 x8 : Int32} {w e : Nat} (hj : j < 890) (J : pq_J W j ms ca pe vi bc bs ec ep ed) (hw : w < W) (he : e < 4)
    (hK : ∀ ms' ca' pe' vi' bc' bs' ec' ep' ed', pq_J W (j + 2) ms' ca' pe' vi' bc' bs' ec' ep' ed' → ∃ k, wL_law_537 post L xs J37 (nI W) x3 x4 kc ks (nI W) ms' ca' pe' vi' bc' bs' ec' ep' ed' k 0 0) :
    ∃ k, wL_law_442 post L xs J37 (nI W) x3 x4 x8 (nI w) (nI e) kc ks (nI W) ms ca pe vi bc bs ec ep ed k 0 := by
  have hW := J.1.2
  have adv : ∀ e, e < 4 → wL_law_483 post L xs J37 (nI W) x3 x4 (nI w) (nI e) kc ks (nI W) ms ca pe vi bc bs ec ep ed := by
    intro e he
    unfold wL_law_483
    exact pl_adv hj J hw he (fun _ _ _ _ _ _ _ _ _ _ J' => hK _ _ _ _ _ _ _ _ _ J')
  refine loop_0 (σ := Unit) (fun k i _ => wL_law_442 post L xs J37 (nI W) x3 x4 x8 (nI w) (nI e) kc ks (nI W) ms ca pe vi bc bs ec ep ed k (nI i)) (fun _ _ => True) 4 () trivial ?_ ?_
  · intro k _ _
    exact pk_le 4 4 (fun _ => adv e he) (fun z => absurd z (by omega))
  · intro k i _ hi _ hn
    obtain ⟨d, hd, ed'⟩ := pl_and3 (x8 + nI i)
    exact pk_le 4 i (fun z => absurd z (by omega)) (fun _ => nm_r ed' (px_capC (a := 0) (r := 0) hW hw (by omega) hd (by omega) (br_c (fun _ => nm_r (nI_1 i) (hn () trivial)) (fun _ => adv d hd))))
end
theorem pl_cell {post : Int32 → Prop} {L b : Nat} {xs : Nat → Int32} (hL : L ≤ 260) (hb : b < 1000) (h : ∀ v, post v) : wpL_cell post L xs () (nI b) :=
  pk_le L b (fun _ => h _) (fun z => ⟨vp_in_nI z (by omega), h _⟩)
theorem pl_main {post : Int32 → Prop} {L W T kc ks : Nat} {xs ms ca pe vi bc bs ec ep ed : Nat → Int32} (hL : L ≤ 260) (hT : T ≤ 65) (h1 : post 1) (J : pq_J W 0 ms ca pe vi bc bs ec ep ed) :
    ∃ k, wL_law_37 post L xs (nI W) (nI T) kc ks k 0 (nI W) ms ca pe vi bc bs ec ep ed := by
  have hW := J.1.2
  have hW1 := J.1.1
  refine loop_0 (fun k i (s : (Nat → Int32) × (Nat → Int32) × (Nat → Int32) × (Nat → Int32) × (Nat → Int32) × (Nat → Int32) × (Nat → Int32) × (Nat → Int32) × (Nat → Int32)) => wL_law_37 post L xs (nI W) (nI T) kc ks k (nI i) (nI W) s.1 s.2.1 s.2.2.1 s.2.2.2.1 s.2.2.2.2.1 s.2.2.2.2.2.1 s.2.2.2.2.2.2.1 s.2.2.2.2.2.2.2.1 s.2.2.2.2.2.2.2.2)
    (fun i s => pq_J W (2 * i) s.1 s.2.1 s.2.2.1 s.2.2.2.1 s.2.2.2.2.1 s.2.2.2.2.2.1 s.2.2.2.2.2.2.1 s.2.2.2.2.2.2.2.1 s.2.2.2.2.2.2.2.2) (T + 1) (ms, ca, pe, vi, bc, bs, ec, ep, ed) J ?_ ?_
  · intro k s _
    exact pk_lt T (T + 1) (fun _ => h1) (fun z => absurd z (by omega))
  · rintro k i ⟨ms, ca, pe, vi, bc, bs, ec, ep, ed⟩ hi J hn
    dsimp only at J hn ⊢
    have hK : ∀ ms' ca' pe' vi' bc' bs' ec' ep' ed', pq_J W (2 * i + 2) ms' ca' pe' vi' bc' bs' ec' ep' ed' → ∃ k', wL_law_537 post L xs (wL_law_37 post L xs (nI W) (nI T) kc ks k) (nI W) (nI T) (nI i) kc ks (nI W) ms' ca' pe' vi' bc' bs' ec' ep' ed' k' 0 0 :=
      fun ms' ca' pe' vi' bc' bs' ec' ep' ed' J' => pl_check (j := 2 * i + 2) (by omega) J' (hn (ms', ca', pe', vi', bc', bs', ec', ep', ed') J')
    have hW0 : ¬ nI W = 0 := nI_ne0 (by omega) (by omega)
    refine pk_lt T i (fun z => absurd z (by omega)) (fun _ => pk_le i 0 (fun _ => hK _ _ _ _ _ _ _ _ _ (pq_J_mono (by omega) J)) (fun z => ?_))
    obtain ⟨i', rfl⟩ : ∃ i', i = i' + 1 := ⟨i - 1, by omega⟩
    have e5 : 1 + 4 * (nI (i' + 1) - 1) = nI (1 + 4 * i') := by
      rw [nI_pred, show (4 : Int32) = nI 4 from rfl, show (1 : Int32) = nI 1 from rfl, pk_mul, nI_add]
    refine nm_r e5 ?_
    rw [nI_1, show nI (1 + 4 * i') + 2 = nI (1 + 4 * i' + 2) from nI_add _ 2, show nI (1 + 4 * i') + 3 = nI (1 + 4 * i' + 3) from nI_add _ 3]
    refine pl_cell hL (by omega) (fun a => pl_cell hL (by omega) (fun b => pl_cell hL (by omega) (fun c => pl_cell hL (by omega) (fun d => ?_))))
    obtain ⟨w, hw, ew⟩ := pl_mod hW1 hW b
    obtain ⟨e, he, ee⟩ := pl_and3 c
    obtain ⟨r, hr, er⟩ := pl_mod hW1 hW c
    refine nm_e ⟨hW0, nm_r ew (nm_e (br_c (fun _ => br_c (fun _ => ?_) (fun _ => br_c (fun _ => ?_) (fun _ => ?_))) (fun _ => br_c (fun _ => br_c (fun _ => ?_) (fun _ => ?_)) (fun _ => ?_))))⟩
    · exact nm_r ee (pl_442 (by omega) J hw he hK)
    · exact ⟨hW0, nm_r er (pl_deliver J hw hr (fun _ _ _ _ _ _ _ _ _ _ J' => hK _ _ _ _ _ _ _ _ _ J'))⟩
    · exact pl_bcast J hw (fun _ _ _ _ _ _ _ _ _ _ J' => hK _ _ _ _ _ _ _ _ _ J')
    · exact pl_156 (by omega) J hw hK
    · exact pl_156 (by omega) J hw hK
    · exact pl_156 (by omega) J hw hK
end
section
/-! what is owed -/
theorem pl_steps (L : Nat) (hL : L ≤ 260) : (Int32.ofNat L - 1 + 3) / 4 = nI ((L + 2) / 4) := by
  have e : (Int32.ofNat L - 1 + 3 : Int32) = nI (L + 2) := by
    show nI L - 1 + 3 = nI (L + 2)
    rw [Int32.sub_eq_add_neg, Int32.add_assoc, show (-1 + 3 : Int32) = nI 2 from rfl, nI_add]
  rw [e]
  exact pk_div (d := 4) (by omega) (by decide) (by decide)
theorem i_vc (xs : Nat → Int32) (L : Nat) (hL : L ≤ 260) : wpL_law (fun r => r = 1) L xs := by
  unfold wpL_law
  refine pl_cell (b := 0) hL (by omega) (fun v => ?_)
  obtain ⟨a, ha, ea⟩ := pl_and3 v
  refine nm_r (show (v &&& 3) + 1 = nI (a + 1) from by rw [ea, nI_1]) ⟨9, 2400, by omega, by omega, ?_⟩
  refine pl_init (by omega) (by omega) ?_
  refine ⟨pt_n4, nm_r (pl_steps L hL) (br_t (nI_pos' (by omega)) ?_)⟩
  exact pl_main hL (by omega) rfl (pl_J0 (by omega) (by omega))
end
