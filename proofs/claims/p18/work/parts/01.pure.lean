/-! counts of cells that are not 0 -/
def pt_nz (x : Int32) : Nat := if x = 0 then 0 else 1
theorem pt_nz_0 {x : Int32} (h : x = 0) : pt_nz x = 0 := if_pos h
theorem pt_nz_1 {x : Int32} (h : ¬ x = 0) : pt_nz x = 1 := if_neg h
theorem pt_nz_le (x : Int32) : pt_nz x ≤ 1 := by
  by_cases h : x = 0
  · rw [pt_nz_0 h]; omega
  · rw [pt_nz_1 h]; omega
/-- how many of the n cells from b on are not 0 -/
def pt_cnt (f : Nat → Int32) (b : Nat) : Nat → Nat
  | 0 => 0
  | n + 1 => pt_cnt f b n + pt_nz (f (b + n))
theorem pt_cnt_s (f : Nat → Int32) (b n : Nat) : pt_cnt f b (n + 1) = pt_cnt f b n + pt_nz (f (b + n)) := rfl
theorem pt_cnt_le (f : Nat → Int32) (b : Nat) : ∀ n, pt_cnt f b n ≤ n
  | 0 => Nat.le_refl 0
  | n + 1 => by
    have h1 := pt_cnt_le f b n
    have h2 := pt_nz_le (f (b + n))
    rw [pt_cnt_s]
    omega
theorem pt_cnt_mono (f : Nat → Int32) (b : Nat) {m : Nat} : ∀ {n : Nat}, m ≤ n → pt_cnt f b m ≤ pt_cnt f b n := by
  intro n
  induction n with
  | zero => intro h; rw [show m = 0 by omega]; exact Nat.le_refl _
  | succ n ih =>
    intro h
    by_cases e : m = n + 1
    · rw [e]; exact Nat.le_refl _
    · have := ih (by omega)
      rw [pt_cnt_s]
      omega
theorem pt_cnt_cong {f g : Nat → Int32} {b : Nat} : ∀ {n : Nat}, (∀ j, j < n → f (b + j) = g (b + j)) → pt_cnt f b n = pt_cnt g b n := by
  intro n
  induction n with
  | zero => intro _; rfl
  | succ n ih =>
    intro h
    rw [pt_cnt_s, pt_cnt_s, ih (fun j hj => h j (by omega)), h n (by omega)]
theorem pt_cnt_upd {f : Nat → Int32} {b q : Nat} {x : Int32} : ∀ {n : Nat}, q < n → pt_cnt (upd f (b + q) x) b n + pt_nz (f (b + q)) = pt_cnt f b n + pt_nz x := by
  intro n
  induction n with
  | zero => intro h; omega
  | succ n ih =>
    intro h
    rw [pt_cnt_s, pt_cnt_s]
    by_cases e : q = n
    · subst e
      rw [pk_us, pt_cnt_cong (f := upd f (b + q) x) (g := f) (fun j hj => pk_un (by omega))]
      omega
    · have := ih (by omega)
      rw [pk_un (show b + n ≠ b + q by omega)]
      omega
theorem pt_cnt_0 {f : Nat → Int32} {b : Nat} : ∀ {n : Nat}, pt_cnt f b n = 0 → ∀ j, j < n → f (b + j) = 0 := by
  intro n
  induction n with
  | zero => intro _ j hj; omega
  | succ n ih =>
    intro h j hj
    rw [pt_cnt_s] at h
    by_cases e : j = n
    · rw [e]
      by_cases z : f (b + n) = 0
      · exact z
      · rw [pt_nz_1 z] at h; omega
    · exact ih (by omega) j (by omega)
theorem pt_cnt_z {f : Nat → Int32} {b : Nat} : ∀ {n : Nat}, (∀ j, j < n → f (b + j) = 0) → pt_cnt f b n = 0 := by
  intro n
  induction n with
  | zero => intro _; rfl
  | succ n ih =>
    intro h
    rw [pt_cnt_s, ih (fun j hj => h j (by omega)), pt_nz_0 (h n (by omega))]
theorem pt_cnt_ge {f : Nat → Int32} {b n j : Nat} (hj : j < n) : pt_nz (f (b + j)) ≤ pt_cnt f b n := by
  have h := pt_cnt_mono f b (show j + 1 ≤ n by omega)
  rw [pt_cnt_s] at h
  omega
theorem pt_cnt_add (f : Nat → Int32) (b m : Nat) : ∀ n, pt_cnt f b (m + n) = pt_cnt f b m + pt_cnt f (b + m) n := by
  intro n
  induction n with
  | zero => rfl
  | succ n ih =>
    rw [show m + (n + 1) = (m + n) + 1 by omega, pt_cnt_s, pt_cnt_s, ih, show b + (m + n) = b + m + n by omega]
    omega
theorem pt_cnt_one {f : Nat → Int32} {b : Nat} (h0 : f b = 1) : ∀ {n : Nat}, (∀ j, 0 < j → j < n + 1 → f (b + j) = 0) → pt_cnt f b (n + 1) = 1 := by
  intro n
  induction n with
  | zero =>
    intro _
    show 0 + pt_nz (f (b + 0)) = 1
    rw [show b + 0 = b by omega, h0]
    rfl
  | succ n ih =>
    intro h
    rw [pt_cnt_s, ih (fun j h1 h2 => h j h1 (by omega)), pt_nz_0 (h (n + 1) (by omega) (by omega))]
/-! a channel by its batches' sizes -/
def pt_sum : List Nat → Nat
  | [] => 0
  | a :: l => a + pt_sum l
/-- whether entry j is the first of its batch -/
def pt_st : List Nat → Nat → Int32
  | [], _ => 0
  | a :: l, j => if j = 0 then 1 else if j < a then 0 else pt_st l (j - a)
def pt_all1 (l : List Nat) : Prop := ∀ a, a ∈ l → 1 ≤ a
theorem pt_all1_c {a : Nat} {l : List Nat} (h : pt_all1 (a :: l)) : 1 ≤ a ∧ pt_all1 l :=
  ⟨h a (List.mem_cons_self), fun b hb => h b (List.mem_cons_of_mem a hb)⟩
theorem pt_sum_app (n : Nat) : ∀ l : List Nat, pt_sum (l ++ [n]) = pt_sum l + n
  | [] => by show n + 0 = 0 + n; omega
  | a :: l => by
    show a + pt_sum (l ++ [n]) = a + pt_sum l + n
    rw [pt_sum_app n l]; omega
theorem pt_len_sum : ∀ {l : List Nat}, pt_all1 l → l.length ≤ pt_sum l
  | [], _ => Nat.le_refl 0
  | a :: l, h => by
    have ⟨h1, h2⟩ := pt_all1_c h
    have := pt_len_sum h2
    show l.length + 1 ≤ a + pt_sum l
    omega
theorem pt_st_0 (a : Nat) (l : List Nat) : pt_st (a :: l) 0 = 1 := if_pos rfl
theorem pt_st_in {a j : Nat} {l : List Nat} (h0 : 0 < j) (h : j < a) : pt_st (a :: l) j = 0 := by
  show (if j = 0 then 1 else if j < a then 0 else pt_st l (j - a)) = 0
  rw [if_neg (by omega), if_pos h]
theorem pt_st_out {a j : Nat} {l : List Nat} (h1 : 1 ≤ a) : pt_st (a :: l) (a + j) = pt_st l j := by
  show (if a + j = 0 then 1 else if a + j < a then 0 else pt_st l (a + j - a)) = _
  rw [if_neg (by omega), if_neg (by omega), show a + j - a = j by omega]
theorem pt_st_app1 {n : Nat} : ∀ {l : List Nat}, pt_all1 l → ∀ j, j < pt_sum l → pt_st (l ++ [n]) j = pt_st l j
  | [], _, j, h => absurd h (Nat.not_lt_zero j)
  | a :: l, h, j, hj => by
    have ⟨h1, h2⟩ := pt_all1_c h
    show pt_st (a :: (l ++ [n])) j = _
    by_cases z : j = 0
    · rw [z, pt_st_0, pt_st_0]
    · by_cases y : j < a
      · rw [pt_st_in (by omega) y, pt_st_in (by omega) y]
      · obtain ⟨i, rfl⟩ : ∃ i, j = a + i := ⟨j - a, by omega⟩
        rw [pt_st_out h1, pt_st_out h1]
        have hj' : a + i < a + pt_sum l := hj
        exact pt_st_app1 h2 i (by omega)
theorem pt_st_app2 {n : Nat} : ∀ {l : List Nat}, pt_all1 l → ∀ j, j < n → pt_st (l ++ [n]) (pt_sum l + j) = if j = 0 then 1 else 0
  | [], _, j, h => by
    show (if 0 + j = 0 then 1 else if 0 + j < n then 0 else pt_st [] (0 + j - n)) = _
    rw [show 0 + j = j by omega, if_pos h]
  | a :: l, h, j, hj => by
    have ⟨h1, h2⟩ := pt_all1_c h
    show pt_st (a :: (l ++ [n])) (a + pt_sum l + j) = _
    rw [show a + pt_sum l + j = a + (pt_sum l + j) by omega, pt_st_out h1]
    exact pt_st_app2 h2 j hj
theorem pt_st_cnt {f : Nat → Int32} : ∀ {l : List Nat} {b : Nat}, pt_all1 l → (∀ j, j < pt_sum l → f (b + j) = pt_st l j) → pt_cnt f b (pt_sum l) = l.length
  | [], _, _, _ => rfl
  | a :: l, b, h, hf => by
    have ⟨h1, h2⟩ := pt_all1_c h
    obtain ⟨a', rfl⟩ : ∃ a', a = a' + 1 := ⟨a - 1, by omega⟩
    have hs : pt_sum ((a' + 1) :: l) = (a' + 1) + pt_sum l := rfl
    rw [hs] at hf
    rw [hs, pt_cnt_add, pt_st_cnt (l := l) (b := b + (a' + 1)) h2 (fun j hj => by
      rw [show b + (a' + 1) + j = b + ((a' + 1) + j) by omega, hf _ (by omega), pt_st_out h1]),
      pt_cnt_one (by have := hf 0 (by omega); rw [pt_st_0] at this; exact this) (fun j h3 h4 => by rw [hf j (by omega), pt_st_in h3 h4])]
    show 1 + l.length = l.length + 1
    omega
/-! what the loops write -/
/-- the entries' points, written from pos on -/
def pt_ep (pend : Nat → Int32) (b pos : Nat) (f : Nat → Int32) : Nat → Nat → Int32
  | 0 => f
  | n + 1 => if pend (b + n) = 0 then pt_ep pend b pos f n else upd (pt_ep pend b pos f n) (pos + pt_cnt pend b n) (nI n)
/-- the entries' deltas -/
def pt_ed (pend : Nat → Int32) (b pos : Nat) (f : Nat → Int32) : Nat → Nat → Int32
  | 0 => f
  | n + 1 => if pend (b + n) = 0 then pt_ed pend b pos f n else upd (pt_ed pend b pos f n) (pos + pt_cnt pend b n) (pend (b + n))
/-- the entries' marks: the first of a batch -/
def pt_cs (pend : Nat → Int32) (b pos : Nat) (f : Nat → Int32) : Nat → Nat → Int32
  | 0 => f
  | n + 1 => if pend (b + n) = 0 then pt_cs pend b pos f n else upd (pt_cs pend b pos f n) (pos + pt_cnt pend b n) (if pt_cnt pend b n = 0 then 1 else 0)
theorem pt_ep_z {pend : Nat → Int32} {b n pos : Nat} {f : Nat → Int32} (h : pend (b + n) = 0) : pt_ep pend b pos f (n + 1) = pt_ep pend b pos f n := if_pos h
theorem pt_ep_p {pend : Nat → Int32} {b n pos : Nat} {f : Nat → Int32} (h : ¬ pend (b + n) = 0) : pt_ep pend b pos f (n + 1) = upd (pt_ep pend b pos f n) (pos + pt_cnt pend b n) (nI n) := if_neg h
theorem pt_ed_z {pend : Nat → Int32} {b n pos : Nat} {f : Nat → Int32} (h : pend (b + n) = 0) : pt_ed pend b pos f (n + 1) = pt_ed pend b pos f n := if_pos h
theorem pt_ed_p {pend : Nat → Int32} {b n pos : Nat} {f : Nat → Int32} (h : ¬ pend (b + n) = 0) : pt_ed pend b pos f (n + 1) = upd (pt_ed pend b pos f n) (pos + pt_cnt pend b n) (pend (b + n)) := if_neg h
theorem pt_cs_z {pend : Nat → Int32} {b n pos : Nat} {f : Nat → Int32} (h : pend (b + n) = 0) : pt_cs pend b pos f (n + 1) = pt_cs pend b pos f n := if_pos h
theorem pt_cs_p {pend : Nat → Int32} {b n pos : Nat} {f : Nat → Int32} (h : ¬ pend (b + n) = 0) : pt_cs pend b pos f (n + 1) = upd (pt_cs pend b pos f n) (pos + pt_cnt pend b n) (if pt_cnt pend b n = 0 then 1 else 0) := if_neg h
theorem pt_ep_in {pend : Nat → Int32} {b pos : Nat} {f : Nat → Int32} (hf : ∀ i, ∃ p, p < 64 ∧ f i = nI p) : ∀ {n : Nat}, n ≤ 64 → ∀ i, ∃ p, p < 64 ∧ pt_ep pend b pos f n i = nI p := by
  intro n
  induction n with
  | zero => intro _ i; exact hf i
  | succ n ih =>
    intro hn i
    by_cases z : pend (b + n) = 0
    · rw [pt_ep_z z]; exact ih (by omega) i
    · rw [pt_ep_p z]
      by_cases e : i = pos + pt_cnt pend b n
      · rw [e, pk_us]; exact ⟨n, by omega, rfl⟩
      · rw [pk_un e]; exact ih (by omega) i
theorem pt_cs_at {pend : Nat → Int32} {b pos : Nat} {f : Nat → Int32} : ∀ {n j : Nat}, j < pt_cnt pend b n → pt_cs pend b pos f n (pos + j) = if j = 0 then 1 else 0 := by
  intro n
  induction n with
  | zero => intro j h; exact absurd h (Nat.not_lt_zero j)
  | succ n ih =>
    intro j h
    rw [pt_cnt_s] at h
    by_cases z : pend (b + n) = 0
    · rw [pt_nz_0 z] at h
      rw [pt_cs_z z]; exact ih (by omega)
    · rw [pt_nz_1 z] at h
      rw [pt_cs_p z]
      by_cases e : j = pt_cnt pend b n
      · rw [e, pk_us]
      · rw [pk_un (by omega)]; exact ih (by omega)
theorem pt_cs_out {pend : Nat → Int32} {b pos : Nat} {f : Nat → Int32} {i : Nat} : ∀ {n : Nat}, (i < pos ∨ pos + pt_cnt pend b n ≤ i) → pt_cs pend b pos f n i = f i := by
  intro n
  induction n with
  | zero => intro _; rfl
  | succ n ih =>
    intro h
    rw [pt_cnt_s] at h
    by_cases z : pend (b + n) = 0
    · rw [pt_cs_z z]; exact ih (by omega)
    · rw [pt_nz_1 z] at h
      rw [pt_cs_p z, pk_un (by omega)]
      exact ih (by omega)
/-- cells moved down by m, n of them from b on -/
def pt_sh (m b : Nat) (f : Nat → Int32) : Nat → Nat → Int32
  | 0 => f
  | n + 1 => upd (pt_sh m b f n) (b + n) (pt_sh m b f n (b + n + m))
theorem pt_sh_ge {m b : Nat} {f : Nat → Int32} {i : Nat} : ∀ {n : Nat}, b + n ≤ i → pt_sh m b f n i = f i := by
  intro n
  induction n with
  | zero => intro _; rfl
  | succ n ih =>
    intro h
    show upd (pt_sh m b f n) (b + n) (pt_sh m b f n (b + n + m)) i = f i
    rw [pk_un (by omega)]
    exact ih (by omega)
theorem pt_sh_lt {m b : Nat} {f : Nat → Int32} {i : Nat} : ∀ {n : Nat}, i < b → pt_sh m b f n i = f i := by
  intro n
  induction n with
  | zero => intro _; rfl
  | succ n ih =>
    intro h
    show upd (pt_sh m b f n) (b + n) (pt_sh m b f n (b + n + m)) i = f i
    rw [pk_un (by omega)]
    exact ih h
theorem pt_sh_at {m b : Nat} {f : Nat → Int32} {j : Nat} : ∀ {n : Nat}, j < n → pt_sh m b f n (b + j) = f (b + j + m) := by
  intro n
  induction n with
  | zero => intro h; omega
  | succ n ih =>
    intro h
    show upd (pt_sh m b f n) (b + n) (pt_sh m b f n (b + n + m)) (b + j) = _
    by_cases e : j = n
    · rw [e, pk_us]; exact pt_sh_ge (by omega)
    · rw [pk_un (by omega)]; exact ih (by omega)
theorem pt_sh_in {m b : Nat} {f : Nat → Int32} (hf : ∀ i, ∃ p, p < 64 ∧ f i = nI p) : ∀ (n i : Nat), ∃ p, p < 64 ∧ pt_sh m b f n i = nI p := by
  intro n
  induction n with
  | zero => exact hf
  | succ n ih =>
    intro i
    show ∃ p, p < 64 ∧ upd (pt_sh m b f n) (b + n) (pt_sh m b f n (b + n + m)) i = nI p
    by_cases e : i = b + n
    · rw [e, pk_us]; exact ih _
    · rw [pk_un e]; exact ih i
/-- the view after n entries of the batch at first -/
def pt_vw (ep ed : Nat → Int32) (first b : Nat) (f : Nat → Int32) : Nat → Nat → Int32
  | 0 => f
  | n + 1 => upd (pt_vw ep ed first b f n) (b + (ep (first + n)).toNatClampNeg) (pt_vw ep ed first b f n (b + (ep (first + n)).toNatClampNeg) + ed (first + n))
/-- n cells from b on set to 0 -/
def pt_clr (b : Nat) (f : Nat → Int32) : Nat → Nat → Int32
  | 0 => f
  | n + 1 => upd (pt_clr b f n) (b + n) 0
theorem pt_clr_at {b : Nat} {f : Nat → Int32} {j : Nat} : ∀ {n : Nat}, j < n → pt_clr b f n (b + j) = 0 := by
  intro n
  induction n with
  | zero => intro h; omega
  | succ n ih =>
    intro h
    show upd (pt_clr b f n) (b + n) 0 (b + j) = 0
    by_cases e : j = n
    · rw [e, pk_us]
    · rw [pk_un (by omega)]; exact ih (by omega)
theorem pt_clr_out {b : Nat} {f : Nat → Int32} {i : Nat} : ∀ {n : Nat}, (i < b ∨ b + n ≤ i) → pt_clr b f n i = f i := by
  intro n
  induction n with
  | zero => intro _; rfl
  | succ n ih =>
    intro h
    show upd (pt_clr b f n) (b + n) 0 i = f i
    rw [pk_un (by omega)]; exact ih (by omega)
