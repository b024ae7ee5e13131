section
theorem pk_us {f : Nat → Int32} {k : Nat} {x : Int32} : upd f k x k = x := if_pos rfl
theorem pk_un {f : Nat → Int32} {k j : Nat} {x : Int32} (h : j ≠ k) : upd f k x j = f j := if_neg h
theorem pk_sub {a b : Nat} (h : b ≤ a) : nI a - nI b = nI (a - b) := by
  obtain ⟨c, rfl⟩ : ∃ c, a = c + b := ⟨a - b, by omega⟩
  rw [← nI_add, Int32.add_sub_cancel, Nat.add_sub_cancel]
theorem pk_m1 (n : Nat) : nI (n + 1) + (-1) = nI n := by
  rw [← nI_1, Int32.add_assoc, show (1 : Int32) + (-1) = 0 from rfl, Int32.add_zero]
theorem pk_mul (a b : Nat) : nI a * nI b = nI (a * b) := (Int32.ofNat_mul a b).symm
theorem pk_div {a d : Nat} (ha : a < 2 ^ 31) (h0 : 0 < d) (hd : d < 2 ^ 31) : nI a / nI d = nI (a / d) := by
  apply Int32.toInt_inj.mp
  rw [lg_idiv_nonneg (by rw [nI_toInt ha]; omega) (by rw [nI_toInt hd]; omega), nI_toInt ha, nI_toInt hd, nI_toInt (Nat.lt_of_le_of_lt (Nat.div_le_self a d) ha)]
  first | rfl | exact (Int.natCast_ediv _ _).symm
theorem pk_rem {a d : Nat} (ha : a < 2 ^ 31) (h0 : 0 < d) (hd : d < 2 ^ 31) : nI a - nI a / nI d * nI d = nI (a % d) := by
  rw [pk_div ha h0 hd, pk_mul, pk_sub (Nat.div_mul_le_self a d)]
  exact congrArg nI (by have := Nat.div_add_mod' a d; omega)
theorem pk_sub_toInt {a b : Nat} (ha : a < 2 ^ 30) (hb : b < 2 ^ 30) : (nI a - nI b).toInt = (a : Int) - b := by
  rw [Int32.toInt_sub, nI_toInt (by omega), nI_toInt (by omega)]
  exact Int.bmod_eq_of_le (by omega) (by omega)
theorem pk_sneg {a b : Nat} (hb : b < 2 ^ 30) (h : a < b) : nI a - nI b < 0 := by
  rw [Int32.lt_iff_toInt_lt, pk_sub_toInt (by omega) hb, show (0 : Int32).toInt = 0 from by decide]
  omega
theorem pk_ix (x : Int32) {n : Nat} (hn : n < 2 ^ 31) : x < 0 ∨ nI n ≤ x ∨ ∃ j : Nat, j < n ∧ x = nI j := by
  by_cases h : x < 0
  · exact Or.inl h
  · obtain ⟨j, hj, rfl⟩ := nI_of h
    by_cases h2 : j < n
    · exact Or.inr (Or.inr ⟨j, h2, rfl⟩)
    · exact Or.inr (Or.inl (nI_le (by omega) hj))
theorem pk_le {x y : Int32} {A B : Prop} (a b : Nat) (f : a ≤ b → A) (g : b < a → B) (hx : x = nI a := by rfl) (hy : y = nI b := by rfl) (ha : a < 2 ^ 31 := by omega) (hb : b < 2 ^ 31 := by omega) : (x ≤ y → A) ∧ (¬ x ≤ y → B) := by
  subst hx hy
  rw [nI_leI ha hb]
  exact ⟨f, fun z => g (by omega)⟩
theorem pk_lt {x y : Int32} {A B : Prop} (a b : Nat) (f : a < b → A) (g : b ≤ a → B) (hx : x = nI a := by rfl) (hy : y = nI b := by rfl) (ha : a < 2 ^ 31 := by omega) (hb : b < 2 ^ 31 := by omega) : (x < y → A) ∧ (¬ x < y → B) := by
  subst hx hy
  rw [nI_ltI ha hb]
  exact ⟨f, fun z => g (by omega)⟩
theorem pk_eq {x y : Int32} {A B : Prop} (a b : Nat) (f : a = b → A) (g : a ≠ b → B) (hx : x = nI a := by rfl) (hy : y = nI b := by rfl) (ha : a < 2 ^ 31 := by omega) (hb : b < 2 ^ 31 := by omega) : (x = y → A) ∧ (¬ x = y → B) := by
  subst hx hy
  rw [nI_eq ha hb]
  exact ⟨f, g⟩
theorem pk_in {x : Int32} (n N : Nat) (h : n < N) (hx : x = nI n := by rfl) (hN : N < 2 ^ 31 := by omega) : vp_in x N := by
  subst hx
  exact vp_in_nI h hN
theorem pk_cl {x : Int32} (n : Nat) (hx : x = nI n := by rfl) (h : n < 2 ^ 31 := by omega) : x.toNatClampNeg = n := by
  subst hx
  exact nI_clamp h
theorem pk_lT {n : Nat} (h : n < 2 ^ 63) : (lN n).toInt = (n : Int) := lg_ofNat_toInt h
theorem pk_lLT {a b : Nat} (ha : a < 2 ^ 63) (hb : b < 2 ^ 63) : lN a < lN b ↔ a < b := by
  rw [Int64.lt_iff_toInt_lt, pk_lT ha, pk_lT hb]; omega
theorem pk_lLE {a b : Nat} (ha : a < 2 ^ 63) (hb : b < 2 ^ 63) : lN a ≤ lN b ↔ a ≤ b := by
  rw [Int64.le_iff_toInt_le, pk_lT ha, pk_lT hb]; omega
theorem pk_lEQ {a b : Nat} (ha : a < 2 ^ 63) (hb : b < 2 ^ 63) : lN a = lN b ↔ a = b := by
  rw [← Int64.toInt_inj, pk_lT ha, pk_lT hb]; omega
theorem pk_loop {σ : Type} (W : Nat → Nat → σ → Prop) (I : Nat → σ → Prop) (e i0 : Nat) (s : σ) (hi : i0 ≤ e) (h0 : I i0 s) (hx : ∀ n s, I e s → W (n + 1) e s)
    (hs : ∀ n i s, i < e → I i s → (∀ s', I (i + 1) s' → W n (i + 1) s') → W (n + 1) i s) : ∃ n, W n i0 s :=
  ⟨e + 1, loop_i W I e hx hs (e + 1) i0 s hi (by omega) h0⟩
theorem pk_loopD {σ : Type} (W : Nat → Nat → σ → Prop) (I : Nat → σ → Prop) (hx : ∀ n s, I 0 s → W (n + 1) 0 s)
    (hs : ∀ n i s, I (i + 1) s → (∀ s', I i s' → W n i s') → W (n + 1) (i + 1) s) : ∀ (e : Nat) (s : σ), I e s → W (e + 1) e s := by
  intro e
  induction e with
  | zero => exact fun s h => hx 0 s h
  | succ e ih => exact fun s h => hs (e + 1) e s h (fun s' h' => ih s' h')
theorem pk_least (P : Nat → Prop) (h : ∃ k, P k) : ∃ k, P k ∧ ∀ j, j < k → ¬ P j := by
  obtain ⟨k, hk⟩ := h
  induction k using Nat.strongRecOn with
  | ind k ih =>
    by_cases e : ∃ j, j < k ∧ P j
    · obtain ⟨j, hj, pj⟩ := e
      exact ih j hj pj
    · exact ⟨k, hk, fun j hj pj => e ⟨j, hj, pj⟩⟩
end
section
/-! counts of cells that are not 0 -/
def pt_nz (x : Int32) : Nat := if x = 0 then 0 else 1
theorem pt_nz_0 {x : Int32} (h : x = 0) : pt_nz x = 0 := if_pos h
theorem pt_nz_1 {x : Int32} (h : ¬ x = 0) : pt_nz x = 1 := if_neg h
theorem pt_nz_le (x : Int32) : pt_nz x ≤ 1 := by
  by_cases h : x = 0
  · rw [pt_nz_0 h]; omega
  · rw [pt_nz_1 h]; omega
/-- how many of the n cells from b on are not 0 -/
def pt_cnt (f : Nat → Int32) (b : Nat) : Nat → Nat
  | 0 => 0
  | n + 1 => pt_cnt f b n + pt_nz (f (b + n))
theorem pt_cnt_s (f : Nat → Int32) (b n : Nat) : pt_cnt f b (n + 1) = pt_cnt f b n + pt_nz (f (b + n)) := rfl
theorem pt_cnt_le (f : Nat → Int32) (b : Nat) : ∀ n, pt_cnt f b n ≤ n
  | 0 => Nat.le_refl 0
  | n + 1 => by
    have h1 := pt_cnt_le f b n
    have h2 := pt_nz_le (f (b + n))
    rw [pt_cnt_s]
    omega
theorem pt_cnt_mono (f : Nat → Int32) (b : Nat) {m : Nat} : ∀ {n : Nat}, m ≤ n → pt_cnt f b m ≤ pt_cnt f b n := by
  intro n
  induction n with
  | zero => intro h; rw [show m = 0 by omega]; exact Nat.le_refl _
  | succ n ih =>
    intro h
    by_cases e : m = n + 1
    · rw [e]; exact Nat.le_refl _
    · have := ih (by omega)
      rw [pt_cnt_s]
      omega
theorem pt_cnt_cong {f g : Nat → Int32} {b : Nat} : ∀ {n : Nat}, (∀ j, j < n → f (b + j) = g (b + j)) → pt_cnt f b n = pt_cnt g b n := by
  intro n
  induction n with
  | zero => intro _; rfl
  | succ n ih =>
    intro h
    rw [pt_cnt_s, pt_cnt_s, ih (fun j hj => h j (by omega)), h n (by omega)]
theorem pt_cnt_upd {f : Nat → Int32} {b q : Nat} {x : Int32} : ∀ {n : Nat}, q < n → pt_cnt (upd f (b + q) x) b n + pt_nz (f (b + q)) = pt_cnt f b n + pt_nz x := by
  intro n
  induction n with
  | zero => intro h; omega
  | succ n ih =>
    intro h
    rw [pt_cnt_s, pt_cnt_s]
    by_cases e : q = n
    · subst e
      rw [pk_us, pt_cnt_cong (f := upd f (b + q) x) (g := f) (fun j hj => pk_un (by omega))]
      omega
    · have := ih (by omega)
      rw [pk_un (show b + n ≠ b + q by omega)]
      omega
theorem pt_cnt_0 {f : Nat → Int32} {b : Nat} : ∀ {n : Nat}, pt_cnt f b n = 0 → ∀ j, j < n → f (b + j) = 0 := by
  intro n
  induction n with
  | zero => intro _ j hj; omega
  | succ n ih =>
    intro h j hj
    rw [pt_cnt_s] at h
    by_cases e : j = n
    · rw [e]
      by_cases z : f (b + n) = 0
      · exact z
      · rw [pt_nz_1 z] at h; omega
    · exact ih (by omega) j (by omega)
theorem pt_cnt_z {f : Nat → Int32} {b : Nat} : ∀ {n : Nat}, (∀ j, j < n → f (b + j) = 0) → pt_cnt f b n = 0 := by
  intro n
  induction n with
  | zero => intro _; rfl
  | succ n ih =>
    intro h
    rw [pt_cnt_s, ih (fun j hj => h j (by omega)), pt_nz_0 (h n (by omega))]
theorem pt_cnt_ge {f : Nat → Int32} {b n j : Nat} (hj : j < n) : pt_nz (f (b + j)) ≤ pt_cnt f b n := by
  have h := pt_cnt_mono f b (show j + 1 ≤ n by omega)
  rw [pt_cnt_s] at h
  omega
theorem pt_cnt_add (f : Nat → Int32) (b m : Nat) : ∀ n, pt_cnt f b (m + n) = pt_cnt f b m + pt_cnt f (b + m) n := by
  intro n
  induction n with
  | zero => rfl
  | succ n ih =>
    rw [show m + (n + 1) = (m + n) + 1 by omega, pt_cnt_s, pt_cnt_s, ih, show b + (m + n) = b + m + n by omega]
    omega
theorem pt_cnt_one {f : Nat → Int32} {b : Nat} (h0 : f b = 1) : ∀ {n : Nat}, (∀ j, 0 < j → j < n + 1 → f (b + j) = 0) → pt_cnt f b (n + 1) = 1 := by
  intro n
  induction n with
  | zero =>
    intro _
    show 0 + pt_nz (f (b + 0)) = 1
    rw [show b + 0 = b by omega, h0]
    rfl
  | succ n ih =>
    intro h
    rw [pt_cnt_s, ih (fun j h1 h2 => h j h1 (by omega)), pt_nz_0 (h (n + 1) (by omega) (by omega))]
/-! a channel by its batches' sizes -/
def pt_sum : List Nat → Nat
  | [] => 0
  | a :: l => a + pt_sum l
/-- whether entry j is the first of its batch -/
def pt_st : List Nat → Nat → Int32
  | [], _ => 0
  | a :: l, j => if j = 0 then 1 else if j < a then 0 else pt_st l (j - a)
def pt_all1 (l : List Nat) : Prop := ∀ a, a ∈ l → 1 ≤ a
theorem pt_all1_c {a : Nat} {l : List Nat} (h : pt_all1 (a :: l)) : 1 ≤ a ∧ pt_all1 l :=
  ⟨h a (List.mem_cons_self), fun b hb => h b (List.mem_cons_of_mem a hb)⟩
theorem pt_sum_app (n : Nat) : ∀ l : List Nat, pt_sum (l ++ [n]) = pt_sum l + n
  | [] => by show n + 0 = 0 + n; omega
  | a :: l => by
    show a + pt_sum (l ++ [n]) = a + pt_sum l + n
    rw [pt_sum_app n l]; omega
theorem pt_len_sum : ∀ {l : List Nat}, pt_all1 l → l.length ≤ pt_sum l
  | [], _ => Nat.le_refl 0
  | a :: l, h => by
    have ⟨h1, h2⟩ := pt_all1_c h
    have := pt_len_sum h2
    show l.length + 1 ≤ a + pt_sum l
    omega
theorem pt_st_0 (a : Nat) (l : List Nat) : pt_st (a :: l) 0 = 1 := if_pos rfl
theorem pt_st_in {a j : Nat} {l : List Nat} (h0 : 0 < j) (h : j < a) : pt_st (a :: l) j = 0 := by
  show (if j = 0 then 1 else if j < a then 0 else pt_st l (j - a)) = 0
  rw [if_neg (by omega), if_pos h]
theorem pt_st_out {a j : Nat} {l : List Nat} (h1 : 1 ≤ a) : pt_st (a :: l) (a + j) = pt_st l j := by
  show (if a + j = 0 then 1 else if a + j < a then 0 else pt_st l (a + j - a)) = _
  rw [if_neg (by omega), if_neg (by omega), show a + j - a = j by omega]
theorem pt_st_app1 {n : Nat} : ∀ {l : List Nat}, pt_all1 l → ∀ j, j < pt_sum l → pt_st (l ++ [n]) j = pt_st l j
  | [], _, j, h => absurd h (Nat.not_lt_zero j)
  | a :: l, h, j, hj => by
    have ⟨h1, h2⟩ := pt_all1_c h
    show pt_st (a :: (l ++ [n])) j = _
    by_cases z : j = 0
    · rw [z, pt_st_0, pt_st_0]
    · by_cases y : j < a
      · rw [pt_st_in (by omega) y, pt_st_in (by omega) y]
      · obtain ⟨i, rfl⟩ : ∃ i, j = a + i := ⟨j - a, by omega⟩
        rw [pt_st_out h1, pt_st_out h1]
        have hj' : a + i < a + pt_sum l := hj
        exact pt_st_app1 h2 i (by omega)
theorem pt_st_app2 {n : Nat} : ∀ {l : List Nat}, pt_all1 l → ∀ j, j < n → pt_st (l ++ [n]) (pt_sum l + j) = if j = 0 then 1 else 0
  | [], _, j, h => by
    show (if 0 + j = 0 then 1 else if 0 + j < n then 0 else pt_st [] (0 + j - n)) = _
    rw [show 0 + j = j by omega, if_pos h]
  | a :: l, h, j, hj => by
    have ⟨h1, h2⟩ := pt_all1_c h
    show pt_st (a :: (l ++ [n])) (a + pt_sum l + j) = _
    rw [show a + pt_sum l + j = a + (pt_sum l + j) by omega, pt_st_out h1]
    exact pt_st_app2 h2 j hj
theorem pt_st_cnt {f : Nat → Int32} : ∀ {l : List Nat} {b : Nat}, pt_all1 l → (∀ j, j < pt_sum l → f (b + j) = pt_st l j) → pt_cnt f b (pt_sum l) = l.length
  | [], _, _, _ => rfl
  | a :: l, b, h, hf => by
    have ⟨h1, h2⟩ := pt_all1_c h
    obtain ⟨a', rfl⟩ : ∃ a', a = a' + 1 := ⟨a - 1, by omega⟩
    have hs : pt_sum ((a' + 1) :: l) = (a' + 1) + pt_sum l := rfl
    rw [hs] at hf
    rw [hs, pt_cnt_add, pt_st_cnt (l := l) (b := b + (a' + 1)) h2 (fun j hj => by
      rw [show b + (a' + 1) + j = b + ((a' + 1) + j) by omega, hf _ (by omega), pt_st_out h1]),
      pt_cnt_one (by have := hf 0 (by omega); rw [pt_st_0] at this; exact this) (fun j h3 h4 => by rw [hf j (by omega), pt_st_in h3 h4])]
    show 1 + l.length = l.length + 1
    omega
/-! what the loops write -/
/-- the entries' points, written from pos on -/
def pt_ep (pend : Nat → Int32) (b pos : Nat) (f : Nat → Int32) : Nat → Nat → Int32
  | 0 => f
  | n + 1 => if pend (b + n) = 0 then pt_ep pend b pos f n else upd (pt_ep pend b pos f n) (pos + pt_cnt pend b n) (nI n)
/-- the entries' deltas -/
def pt_ed (pend : Nat → Int32) (b pos : Nat) (f : Nat → Int32) : Nat → Nat → Int32
  | 0 => f
  | n + 1 => if pend (b + n) = 0 then pt_ed pend b pos f n else upd (pt_ed pend b pos f n) (pos + pt_cnt pend b n) (pend (b + n))
/-- the entries' marks: the first of a batch -/
def pt_cs (pend : Nat → Int32) (b pos : Nat) (f : Nat → Int32) : Nat → Nat → Int32
  | 0 => f
  | n + 1 => if pend (b + n) = 0 then pt_cs pend b pos f n else upd (pt_cs pend b pos f n) (pos + pt_cnt pend b n) (if pt_cnt pend b n = 0 then 1 else 0)
theorem pt_ep_z {pend : Nat → Int32} {b n pos : Nat} {f : Nat → Int32} (h : pend (b + n) = 0) : pt_ep pend b pos f (n + 1) = pt_ep pend b pos f n := if_pos h
theorem pt_ep_p {pend : Nat → Int32} {b n pos : Nat} {f : Nat → Int32} (h : ¬ pend (b + n) = 0) : pt_ep pend b pos f (n + 1) = upd (pt_ep pend b pos f n) (pos + pt_cnt pend b n) (nI n) := if_neg h
theorem pt_ed_z {pend : Nat → Int32} {b n pos : Nat} {f : Nat → Int32} (h : pend (b + n) = 0) : pt_ed pend b pos f (n + 1) = pt_ed pend b pos f n := if_pos h
theorem pt_ed_p {pend : Nat → Int32} {b n pos : Nat} {f : Nat → Int32} (h : ¬ pend (b + n) = 0) : pt_ed pend b pos f (n + 1) = upd (pt_ed pend b pos f n) (pos + pt_cnt pend b n) (pend (b + n)) := if_neg h
theorem pt_cs_z {pend : Nat → Int32} {b n pos : Nat} {f : Nat → Int32} (h : pend (b + n) = 0) : pt_cs pend b pos f (n + 1) = pt_cs pend b pos f n := if_pos h
theorem pt_cs_p {pend : Nat → Int32} {b n pos : Nat} {f : Nat → Int32} (h : ¬ pend (b + n) = 0) : pt_cs pend b pos f (n + 1) = upd (pt_cs pend b pos f n) (pos + pt_cnt pend b n) (if pt_cnt pend b n = 0 then 1 else 0) := if_neg h
theorem pt_ep_in {pend : Nat → Int32} {b pos : Nat} {f : Nat → Int32} (hf : ∀ i, ∃ p, p < 64 ∧ f i = nI p) : ∀ {n : Nat}, n ≤ 64 → ∀ i, ∃ p, p < 64 ∧ pt_ep pend b pos f n i = nI p := by
  intro n
  induction n with
  | zero => intro _ i; exact hf i
  | succ n ih =>
    intro hn i
    by_cases z : pend (b + n) = 0
    · rw [pt_ep_z z]; exact ih (by omega) i
    · rw [pt_ep_p z]
      by_cases e : i = pos + pt_cnt pend b n
      · rw [e, pk_us]; exact ⟨n, by omega, rfl⟩
      · rw [pk_un e]; exact ih (by omega) i
theorem pt_cs_at {pend : Nat → Int32} {b pos : Nat} {f : Nat → Int32} : ∀ {n j : Nat}, j < pt_cnt pend b n → pt_cs pend b pos f n (pos + j) = if j = 0 then 1 else 0 := by
  intro n
  induction n with
  | zero => intro j h; exact absurd h (Nat.not_lt_zero j)
  | succ n ih =>
    intro j h
    rw [pt_cnt_s] at h
    by_cases z : pend (b + n) = 0
    · rw [pt_nz_0 z] at h
      rw [pt_cs_z z]; exact ih (by omega)
    · rw [pt_nz_1 z] at h
      rw [pt_cs_p z]
      by_cases e : j = pt_cnt pend b n
      · rw [e, pk_us]
      · rw [pk_un (by omega)]; exact ih (by omega)
theorem pt_cs_out {pend : Nat → Int32} {b pos : Nat} {f : Nat → Int32} {i : Nat} : ∀ {n : Nat}, (i < pos ∨ pos + pt_cnt pend b n ≤ i) → pt_cs pend b pos f n i = f i := by
  intro n
  induction n with
  | zero => intro _; rfl
  | succ n ih =>
    intro h
    rw [pt_cnt_s] at h
    by_cases z : pend (b + n) = 0
    · rw [pt_cs_z z]; exact ih (by omega)
    · rw [pt_nz_1 z] at h
      rw [pt_cs_p z, pk_un (by omega)]
      exact ih (by omega)
/-- cells moved down by m, n of them from b on -/
def pt_sh (m b : Nat) (f : Nat → Int32) : Nat → Nat → Int32
  | 0 => f
  | n + 1 => upd (pt_sh m b f n) (b + n) (pt_sh m b f n (b + n + m))
theorem pt_sh_ge {m b : Nat} {f : Nat → Int32} {i : Nat} : ∀ {n : Nat}, b + n ≤ i → pt_sh m b f n i = f i := by
  intro n
  induction n with
  | zero => intro _; rfl
  | succ n ih =>
    intro h
    show upd (pt_sh m b f n) (b + n) (pt_sh m b f n (b + n + m)) i = f i
    rw [pk_un (by omega)]
    exact ih (by omega)
theorem pt_sh_lt {m b : Nat} {f : Nat → Int32} {i : Nat} : ∀ {n : Nat}, i < b → pt_sh m b f n i = f i := by
  intro n
  induction n with
  | zero => intro _; rfl
  | succ n ih =>
    intro h
    show upd (pt_sh m b f n) (b + n) (pt_sh m b f n (b + n + m)) i = f i
    rw [pk_un (by omega)]
    exact ih h
theorem pt_sh_at {m b : Nat} {f : Nat → Int32} {j : Nat} : ∀ {n : Nat}, j < n → pt_sh m b f n (b + j) = f (b + j + m) := by
  intro n
  induction n with
  | zero => intro h; omega
  | succ n ih =>
    intro h
    show upd (pt_sh m b f n) (b + n) (pt_sh m b f n (b + n + m)) (b + j) = _
    by_cases e : j = n
    · rw [e, pk_us]; exact pt_sh_ge (by omega)
    · rw [pk_un (by omega)]; exact ih (by omega)
theorem pt_sh_in {m b : Nat} {f : Nat → Int32} (hf : ∀ i, ∃ p, p < 64 ∧ f i = nI p) : ∀ (n i : Nat), ∃ p, p < 64 ∧ pt_sh m b f n i = nI p := by
  intro n
  induction n with
  | zero => exact hf
  | succ n ih =>
    intro i
    show ∃ p, p < 64 ∧ upd (pt_sh m b f n) (b + n) (pt_sh m b f n (b + n + m)) i = nI p
    by_cases e : i = b + n
    · rw [e, pk_us]; exact ih _
    · rw [pk_un e]; exact ih i
/-- the view after n entries of the batch at first -/
def pt_vw (ep ed : Nat → Int32) (first b : Nat) (f : Nat → Int32) : Nat → Nat → Int32
  | 0 => f
  | n + 1 => upd (pt_vw ep ed first b f n) (b + (ep (first + n)).toNatClampNeg) (pt_vw ep ed first b f n (b + (ep (first + n)).toNatClampNeg) + ed (first + n))
/-- n cells from b on set to 0 -/
def pt_clr (b : Nat) (f : Nat → Int32) : Nat → Nat → Int32
  | 0 => f
  | n + 1 => upd (pt_clr b f n) (b + n) 0
theorem pt_clr_at {b : Nat} {f : Nat → Int32} {j : Nat} : ∀ {n : Nat}, j < n → pt_clr b f n (b + j) = 0 := by
  intro n
  induction n with
  | zero => intro h; omega
  | succ n ih =>
    intro h
    show upd (pt_clr b f n) (b + n) 0 (b + j) = 0
    by_cases e : j = n
    · rw [e, pk_us]
    · rw [pk_un (by omega)]; exact ih (by omega)
theorem pt_clr_out {b : Nat} {f : Nat → Int32} {i : Nat} : ∀ {n : Nat}, (i < b ∨ b + n ≤ i) → pt_clr b f n i = f i := by
  intro n
  induction n with
  | zero => intro _; rfl
  | succ n ih =>
    intro h
    show upd (pt_clr b f n) (b + n) 0 i = f i
    rw [pk_un (by omega)]; exact ih (by omega)
end
section
/-! the graph and the frontier -/
def pt_K (a b : Nat) : Nat := if a = b then 0 else if a = 3 ∨ b = 0 then 9 else if a = 2 ∧ b = 1 then 1 else 0
/-- the point p could result in (o, e, r); 9 feedback edges stand for none: r is below 9 -/
def pt_cr (p o e r : Nat) : Prop := p / 4 % 4 ≤ e ∧ p % 4 + pt_K (p / 16) o ≤ r
/-- the pair (e, r) is one of M for operator o at worker w -/
def pt_M (f : Nat → Int32) (w o e r : Nat) : Prop := ∃ a q, a < 4 ∧ q < 4 ∧ q + pt_K a o = r ∧ 0 < f (64 * w + (16 * a + 4 * e + q))
def pt_lst (M : Nat → Prop) (m : Nat) : Prop := m ≤ 5 ∧ (m < 5 → M m) ∧ ∀ r, r < m → ¬ M r
theorem pt_lst_ex (M : Nat → Prop) : ∃ m, pt_lst M m := by
  by_cases h : ∃ r, r < 5 ∧ M r
  · obtain ⟨k, ⟨hk1, hk2⟩, hl⟩ := pk_least (fun r => r < 5 ∧ M r) h
    exact ⟨k, by omega, fun _ => hk2, fun r hr m => hl r hr ⟨by omega, m⟩⟩
  · exact ⟨5, Nat.le_refl 5, fun z => absurd z (by omega), fun r hr m => h ⟨r, hr, m⟩⟩
theorem pt_lst_un {M : Nat → Prop} {m n : Nat} (h : pt_lst M m) (g : pt_lst M n) : m = n := by
  obtain ⟨a1, a2, a3⟩ := h
  obtain ⟨b1, b2, b3⟩ := g
  rcases Nat.lt_trichotomy m n with z | z | z
  · exact absurd (a2 (by omega)) (b3 m z)
  · exact z
  · exact absurd (b2 (by omega)) (a3 n z)
/-- the least round of epoch e in M, 5 where there is none -/
noncomputable def pt_L (f : Nat → Int32) (w o e : Nat) : Nat := Classical.choose (pt_lst_ex (pt_M f w o e))
theorem pt_L_s (f : Nat → Int32) (w o e : Nat) : pt_lst (pt_M f w o e) (pt_L f w o e) := Classical.choose_spec (pt_lst_ex (pt_M f w o e))
def pt_low (L : Nat → Nat) : Nat → Nat
  | 0 => 5
  | e + 1 => if L e < pt_low L e then L e else pt_low L e
def pt_sz (L : Nat → Nat) : Nat → Nat
  | 0 => 0
  | e + 1 => if L e < pt_low L e then pt_sz L e + 1 else pt_sz L e
theorem pt_low_t {L : Nat → Nat} {e : Nat} (h : L e < pt_low L e) : pt_low L (e + 1) = L e := if_pos h
theorem pt_low_f {L : Nat → Nat} {e : Nat} (h : ¬ L e < pt_low L e) : pt_low L (e + 1) = pt_low L e := if_neg h
theorem pt_sz_t {L : Nat → Nat} {e : Nat} (h : L e < pt_low L e) : pt_sz L (e + 1) = pt_sz L e + 1 := if_pos h
theorem pt_sz_f {L : Nat → Nat} {e : Nat} (h : ¬ L e < pt_low L e) : pt_sz L (e + 1) = pt_sz L e := if_neg h
theorem pt_sz_le (L : Nat → Nat) : ∀ e, pt_sz L e ≤ e := by
  intro e
  induction e with
  | zero => exact Nat.le_refl 0
  | succ e ih =>
    by_cases h : L e < pt_low L e
    · rw [pt_sz_t h]; omega
    · rw [pt_sz_f h]; omega
theorem pt_low_lt {L : Nat → Nat} {r : Nat} : ∀ {e : Nat}, r < pt_low L e ↔ r < 5 ∧ ∀ e', e' < e → r < L e' := by
  intro e
  induction e with
  | zero => exact ⟨fun h => ⟨h, fun e' h' => absurd h' (by omega)⟩, fun h => h.1⟩
  | succ e ih =>
    by_cases h : L e < pt_low L e
    · rw [pt_low_t h]
      constructor
      · intro g
        have k := ih.mp (show r < pt_low L e by omega)
        refine ⟨k.1, fun e' he => ?_⟩
        by_cases x : e' = e
        · rw [x]; exact g
        · exact k.2 e' (by omega)
      · intro g
        exact g.2 e (by omega)
    · rw [pt_low_f h]
      constructor
      · intro g
        have k := ih.mp g
        refine ⟨k.1, fun e' he => ?_⟩
        by_cases x : e' = e
        · rw [x]; omega
        · exact k.2 e' (by omega)
      · intro g
        exact ih.mpr ⟨g.1, fun e' he => g.2 e' (by omega)⟩
theorem pt_low_le (L : Nat → Nat) (e : Nat) : pt_low L e ≤ 5 := by
  rcases Nat.lt_or_ge 5 (pt_low L e) with h | h
  · exact absurd (pt_low_lt.mp h).1 (by omega)
  · exact h
/-- the pair (e, r) is an element of the frontier -/
def pt_F (f : Nat → Int32) (w o e r : Nat) : Prop := pt_M f w o e r ∧ ∀ e2 r2, e2 ≤ e → r2 ≤ r → ¬ (e2 = e ∧ r2 = r) → ¬ pt_M f w o e2 r2
theorem pt_F_iff {f : Nat → Int32} {w o e r : Nat} (hr : r < 5) : pt_F f w o e r ↔ r = pt_L f w o e ∧ pt_L f w o e < pt_low (pt_L f w o) e := by
  obtain ⟨l1, l2, l3⟩ := pt_L_s f w o e
  constructor
  · rintro ⟨h1, h2⟩
    have g : r = pt_L f w o e := by
      rcases Nat.lt_trichotomy r (pt_L f w o e) with z | z | z
      · exact absurd h1 (l3 r z)
      · exact z
      · exact absurd (l2 (by omega)) (h2 e _ (Nat.le_refl e) (Nat.le_of_lt z) (fun t => by have := t.2; omega))
    refine ⟨g, pt_low_lt.mpr ⟨by omega, fun e' he => ?_⟩⟩
    obtain ⟨k1, k2, k3⟩ := pt_L_s f w o e'
    rcases Nat.lt_or_ge (pt_L f w o e) (pt_L f w o e') with z | z
    · exact z
    · exact absurd (k2 (by omega)) (h2 e' _ (by omega) (by omega) (fun t => by have := t.1; omega))
  · rintro ⟨h1, h2⟩
    have k := pt_low_lt.mp h2
    refine ⟨by rw [h1]; exact l2 k.1, fun e2 r2 g1 g2 g3 => ?_⟩
    by_cases x : e2 = e
    · rw [x]
      exact l3 r2 (by have : ¬ r2 = r := fun t => g3 ⟨x, t⟩; omega)
    · have := k.2 e2 (by omega)
      exact (pt_L_s f w o e2).2.2 r2 (by omega)
/-! occurrences -/
/-- msgs p and the capabilities of the first w workers at p -/
def pt_occ (m c : Nat → Int32) (p : Nat) : Nat → Nat
  | 0 => (m p).toNatClampNeg
  | w + 1 => pt_occ m c p w + (c (64 * w + p)).toNatClampNeg
theorem pt_occ_le {m c : Nat → Int32} {p k : Nat} (hk : k < 2 ^ 20) (hm : ∀ i, ∃ a, a ≤ k ∧ m i = nI a) (hc : ∀ i, ∃ a, a ≤ k ∧ c i = nI a) : ∀ w, pt_occ m c p w ≤ k * (w + 1) := by
  intro w
  induction w with
  | zero =>
    obtain ⟨a, ha, e⟩ := hm p
    show (m p).toNatClampNeg ≤ _
    rw [e, nI_clamp (by omega)]
    omega
  | succ w ih =>
    obtain ⟨a, ha, e⟩ := hc (64 * w + p)
    show pt_occ m c p w + (c (64 * w + p)).toNatClampNeg ≤ _
    rw [e, nI_clamp (by omega), Nat.mul_add, Nat.mul_one]
    omega
theorem pt_occ_tail {m c : Nat → Int32} {p W : Nat} (hc : ∀ i, 64 * W ≤ i → c i = 0) : ∀ {w : Nat}, W ≤ w → pt_occ m c p w = pt_occ m c p W := by
  intro w
  induction w with
  | zero => intro h; rw [show W = 0 by omega]
  | succ w ih =>
    intro h
    by_cases e : W = w + 1
    · rw [e]
    · show pt_occ m c p w + (c (64 * w + p)).toNatClampNeg = _
      rw [hc _ (by omega), ih (by omega)]
      rfl
end
section
/-! a channel's counts and sizes -/
def pt_lay (bs : Nat → Int32) : Nat → List Nat → Prop
  | _, [] => True
  | o, a :: l => bs o = nI a ∧ pt_lay bs (o + 1) l
theorem pt_lay_cong {bs bs' : Nat → Int32} : ∀ {l : List Nat} {o o' : Nat}, (∀ j, j < l.length → bs' (o' + j) = bs (o + j)) → pt_lay bs o l → pt_lay bs' o' l
  | [], _, _, _, _ => trivial
  | a :: l, o, o', h, hb => by
    refine ⟨?_, pt_lay_cong (l := l) (o := o + 1) (o' := o' + 1) (fun j hj => ?_) hb.2⟩
    · have := h 0 (Nat.succ_pos _)
      exact this.trans hb.1
    · have := h (j + 1) (Nat.succ_lt_succ hj)
      rw [show o' + 1 + j = o' + (j + 1) by omega, show o + 1 + j = o + (j + 1) by omega]
      exact this
theorem pt_lay_app {bs : Nat → Int32} {n : Nat} : ∀ {l : List Nat} {o : Nat}, pt_lay bs o l → bs (o + l.length) = nI n → pt_lay bs o (l ++ [n])
  | [], _, _, h => ⟨h, trivial⟩
  | a :: l, o, hb, h => by
    refine ⟨hb.1, pt_lay_app hb.2 ?_⟩
    have h' : bs (o + (l.length + 1)) = nI n := h
    rw [show o + 1 + l.length = o + (l.length + 1) by omega]
    exact h'
/-- channel c holds batches of the sizes l -/
def pt_ch (l : List Nat) (c : Nat) (bc bs ec : Nat → Int32) : Prop := pt_all1 l ∧ pt_sum l ≤ 32 ∧ bc c = nI l.length ∧ ec c = nI (pt_sum l) ∧ pt_lay bs (32 * c) l
theorem pt_ch_len {l : List Nat} {c : Nat} {bc bs ec : Nat → Int32} (h : pt_ch l c bc bs ec) : l.length ≤ 32 := Nat.le_trans (pt_len_sum h.1) h.2.1
theorem pt_ch_cong {l : List Nat} {c : Nat} {bc bs ec bc' bs' ec' : Nat → Int32} (h : pt_ch l c bc bs ec) (h1 : bc' c = bc c) (h2 : ec' c = ec c) (h3 : ∀ j, j < l.length → bs' (32 * c + j) = bs (32 * c + j)) : pt_ch l c bc' bs' ec' :=
  ⟨h.1, h.2.1, h1.trans h.2.2.1, h2.trans h.2.2.2.1, pt_lay_cong h3 h.2.2.2.2⟩
theorem pt_ch_app {l : List Nat} {c n : Nat} {bc bs ec bc' bs' ec' : Nat → Int32} (h : pt_ch l c bc bs ec) (hn : 1 ≤ n) (hs : pt_sum l + n ≤ 32) (h1 : bc' c = nI (l.length + 1)) (h2 : ec' c = nI (pt_sum l + n)) (h3 : ∀ j, j < l.length → bs' (32 * c + j) = bs (32 * c + j)) (h4 : bs' (32 * c + l.length) = nI n) : pt_ch (l ++ [n]) c bc' bs' ec' := by
  refine ⟨?_, ?_, ?_, ?_, pt_lay_app (pt_lay_cong h3 h.2.2.2.2) h4⟩
  · intro a ha
    rcases List.mem_append.mp ha with z | z
    · exact h.1 a z
    · rw [List.mem_singleton.mp z]; exact hn
  · rw [pt_sum_app]; exact hs
  · rw [h1, List.length_append]; rfl
  · rw [h2, pt_sum_app]
theorem pt_ch_tail {a : Nat} {l : List Nat} {c : Nat} {bc bs ec bc' bs' ec' : Nat → Int32} (h : pt_ch (a :: l) c bc bs ec) (h1 : bc' c = nI l.length) (h2 : ec' c = nI (pt_sum l)) (h3 : ∀ j, j < l.length → bs' (32 * c + j) = bs (32 * c + j + 1)) : pt_ch l c bc' bs' ec' := by
  have hs : a + pt_sum l ≤ 32 := h.2.1
  exact ⟨(pt_all1_c h.1).2, by omega, h1, h2, pt_lay_cong (o := 32 * c + 1) (fun j hj => by rw [h3 j hj, show 32 * c + j + 1 = 32 * c + 1 + j by omega]) h.2.2.2.2.2⟩
/-- .. and its entries' marks -/
def pt_mk (l : List Nat) (c : Nat) (st : Nat → Int32) : Prop := ∀ j, j < pt_sum l → st (32 * c + j) = pt_st l j
theorem pt_mk_cong {l : List Nat} {c : Nat} {st st' : Nat → Int32} (h : pt_mk l c st) (h1 : ∀ j, j < pt_sum l → st' (32 * c + j) = st (32 * c + j)) : pt_mk l c st' := fun j hj => (h1 j hj).trans (h j hj)
theorem pt_mk_app {l : List Nat} {c n : Nat} {st st' : Nat → Int32} (ha : pt_all1 l) (h : pt_mk l c st) (h1 : ∀ j, j < pt_sum l → st' (32 * c + j) = st (32 * c + j)) (h2 : ∀ j, j < n → st' (32 * c + pt_sum l + j) = if j = 0 then 1 else 0) : pt_mk (l ++ [n]) c st' := by
  intro j hj
  rw [pt_sum_app] at hj
  by_cases z : j < pt_sum l
  · rw [h1 j z, h j z, pt_st_app1 ha j z]
  · obtain ⟨i, rfl⟩ : ∃ i, j = pt_sum l + i := ⟨j - pt_sum l, by omega⟩
    rw [show 32 * c + (pt_sum l + i) = 32 * c + pt_sum l + i by omega, h2 i (by omega), pt_st_app2 ha i (by omega)]
theorem pt_mk_tail {a : Nat} {l : List Nat} {c : Nat} {st st' : Nat → Int32} (ha : 1 ≤ a) (h : pt_mk (a :: l) c st) (h1 : ∀ j, j < pt_sum l → st' (32 * c + j) = st (32 * c + j + a)) : pt_mk l c st' := by
  intro j hj
  have hs : pt_sum (a :: l) = a + pt_sum l := rfl
  have := h (a + j) (by rw [hs]; omega)
  rw [h1 j hj, show 32 * c + j + a = 32 * c + (a + j) by omega, this, pt_st_out ha]
/-! one batch of n entries more in channel c0 -/
theorem pt_app_ch {Ls : Nat → List Nat} {c0 n : Nat} {bc bs ec : Nat → Int32} (hn : 1 ≤ n) (h0 : pt_ch (Ls c0) c0 bc bs ec) (hr : pt_sum (Ls c0) + n ≤ 32) {c : Nat} (h : pt_ch (Ls c) c bc bs ec) :
    pt_ch (if c = c0 then Ls c0 ++ [n] else Ls c) c (upd bc c0 (bc c0 + 1)) (upd bs (32 * c0 + (bc c0).toNatClampNeg) (nI n)) (upd ec c0 (ec c0 + nI n)) := by
  have hl := pt_len_sum h0.1
  have e1 : (bc c0).toNatClampNeg = (Ls c0).length := by rw [h0.2.2.1, nI_clamp (by omega)]
  rw [e1]
  by_cases e : c = c0
  · subst e
    rw [if_pos rfl]
    exact pt_ch_app h0 hn hr (by rw [pk_us, h0.2.2.1, nI_1]) (by rw [pk_us, h0.2.2.2.1, nI_add]) (fun j hj => pk_un (by omega)) pk_us
  · rw [if_neg e]
    have := pt_ch_len h
    exact pt_ch_cong h (pk_un e) (pk_un e) (fun j hj => pk_un (by omega))
theorem pt_app_mk {Ls : Nat → List Nat} {c0 n b : Nat} {bc bs ec st pend : Nat → Int32} (hn : pt_cnt pend b 64 = n) (h0 : pt_ch (Ls c0) c0 bc bs ec) (hr : pt_sum (Ls c0) + n ≤ 32) {c : Nat} (h : pt_ch (Ls c) c bc bs ec) (hm : pt_mk (Ls c) c st) :
    pt_mk (if c = c0 then Ls c0 ++ [n] else Ls c) c (pt_cs pend b (32 * c0 + (ec c0).toNatClampNeg) st 64) := by
  have e1 : (ec c0).toNatClampNeg = pt_sum (Ls c0) := by rw [h0.2.2.2.1, nI_clamp (by omega)]
  rw [e1]
  by_cases e : c = c0
  · subst e
    rw [if_pos rfl]
    exact pt_mk_app h0.1 hm (fun j hj => pt_cs_out (by omega)) (fun j hj => pt_cs_at (by omega))
  · rw [if_neg e]
    have := h.2.1
    exact pt_mk_cong hm (fun j hj => pt_cs_out (by omega))
/-! what a broadcast writes, channel by channel -/
def pt_bbc (w : Nat) (bc : Nat → Int32) : Nat → Nat → Int32
  | 0 => bc
  | r + 1 => upd (pt_bbc w bc r) (4 * w + r) (pt_bbc w bc r (4 * w + r) + 1)
def pt_bbs (w n : Nat) (bc bs : Nat → Int32) : Nat → Nat → Int32
  | 0 => bs
  | r + 1 => upd (pt_bbs w n bc bs r) (32 * (4 * w + r) + (pt_bbc w bc r (4 * w + r)).toNatClampNeg) (nI n)
def pt_bec (w n : Nat) (ec : Nat → Int32) : Nat → Nat → Int32
  | 0 => ec
  | r + 1 => upd (pt_bec w n ec r) (4 * w + r) (pt_bec w n ec r (4 * w + r) + nI n)
def pt_bep (pend : Nat → Int32) (w n : Nat) (ec ep : Nat → Int32) : Nat → Nat → Int32
  | 0 => ep
  | r + 1 => pt_ep pend (64 * w) (32 * (4 * w + r) + (pt_bec w n ec r (4 * w + r)).toNatClampNeg) (pt_bep pend w n ec ep r) 64
def pt_bed (pend : Nat → Int32) (w n : Nat) (ec ed : Nat → Int32) : Nat → Nat → Int32
  | 0 => ed
  | r + 1 => pt_ed pend (64 * w) (32 * (4 * w + r) + (pt_bec w n ec r (4 * w + r)).toNatClampNeg) (pt_bed pend w n ec ed r) 64
def pt_bcs (pend : Nat → Int32) (w n : Nat) (ec st : Nat → Int32) : Nat → Nat → Int32
  | 0 => st
  | r + 1 => pt_cs pend (64 * w) (32 * (4 * w + r) + (pt_bec w n ec r (4 * w + r)).toNatClampNeg) (pt_bcs pend w n ec st r) 64
theorem pt_bec_hi {w n : Nat} {ec : Nat → Int32} {c : Nat} : ∀ {R : Nat}, (c < 4 * w ∨ 4 * w + R ≤ c) → pt_bec w n ec R c = ec c := by
  intro R
  induction R with
  | zero => intro _; rfl
  | succ R ih =>
    intro h
    show upd (pt_bec w n ec R) (4 * w + R) _ c = _
    rw [pk_un (by omega)]
    exact ih (by omega)
theorem pt_bbc_hi {w : Nat} {bc : Nat → Int32} {c : Nat} : ∀ {R : Nat}, (c < 4 * w ∨ 4 * w + R ≤ c) → pt_bbc w bc R c = bc c := by
  intro R
  induction R with
  | zero => intro _; rfl
  | succ R ih =>
    intro h
    show upd (pt_bbc w bc R) (4 * w + R) _ c = _
    rw [pk_un (by omega)]
    exact ih (by omega)
/-- the sizes' lists after the channels (w, 0) .. (w, R - 1) have got their batch -/
def pt_bL (w n : Nat) (Ls : Nat → List Nat) (R c : Nat) : List Nat := if 4 * w ≤ c ∧ c < 4 * w + R then Ls c ++ [n] else Ls c
theorem pt_bL_s {w n R c : Nat} {Ls : Nat → List Nat} : pt_bL w n Ls (R + 1) c = if c = 4 * w + R then pt_bL w n Ls R (4 * w + R) ++ [n] else pt_bL w n Ls R c := by
  unfold pt_bL
  by_cases e : c = 4 * w + R
  · rw [if_pos e, if_pos (by omega), if_neg (by omega), e]
  · rw [if_neg e]
    by_cases h : 4 * w ≤ c ∧ c < 4 * w + R
    · rw [if_pos h, if_pos (by omega)]
    · rw [if_neg h, if_neg (by omega)]
theorem pt_bL_at {w n R : Nat} {Ls : Nat → List Nat} : pt_bL w n Ls R (4 * w + R) = Ls (4 * w + R) := if_neg (by omega)
theorem pt_bch {w n : Nat} {Ls : Nat → List Nat} {bc bs ec : Nat → Int32} (hw : w < 4) (hn : 1 ≤ n) (h : ∀ c, c < 16 → pt_ch (Ls c) c bc bs ec) :
    ∀ {R : Nat}, R ≤ 4 → (∀ r, r < R → pt_sum (Ls (4 * w + r)) + n ≤ 32) → ∀ c, c < 16 → pt_ch (pt_bL w n Ls R c) c (pt_bbc w bc R) (pt_bbs w n bc bs R) (pt_bec w n ec R) := by
  intro R
  induction R with
  | zero =>
    intro _ _ c hc
    show pt_ch (if 4 * w ≤ c ∧ c < 4 * w + 0 then Ls c ++ [n] else Ls c) c bc bs ec
    rw [if_neg (by omega)]
    exact h c hc
  | succ R ih =>
    intro hR hr c hc
    have k := ih (by omega) (fun r hr' => hr r (by omega))
    rw [pt_bL_s]
    exact pt_app_ch (Ls := pt_bL w n Ls R) (c0 := 4 * w + R) hn (k _ (by omega)) (by rw [pt_bL_at]; exact hr R (by omega)) (k c hc)
theorem pt_bmk {w n : Nat} {Ls : Nat → List Nat} {bc bs ec st pend : Nat → Int32} (hw : w < 4) (hn : 1 ≤ n) (hp : pt_cnt pend (64 * w) 64 = n) (h : ∀ c, c < 16 → pt_ch (Ls c) c bc bs ec) (hm : ∀ c, c < 16 → pt_mk (Ls c) c st) :
    ∀ {R : Nat}, R ≤ 4 → (∀ r, r < R → pt_sum (Ls (4 * w + r)) + n ≤ 32) → ∀ c, c < 16 → pt_mk (pt_bL w n Ls R c) c (pt_bcs pend w n ec st R) := by
  intro R
  induction R with
  | zero =>
    intro _ _ c hc
    show pt_mk (if 4 * w ≤ c ∧ c < 4 * w + 0 then Ls c ++ [n] else Ls c) c st
    rw [if_neg (by omega)]
    exact hm c hc
  | succ R ih =>
    intro hR hr c hc
    have k := ih (by omega) (fun r hr' => hr r (by omega))
    have kc := pt_bch hw hn h (R := R) (by omega) (fun r hr' => hr r (by omega))
    rw [pt_bL_s]
    exact pt_app_mk (Ls := pt_bL w n Ls R) (c0 := 4 * w + R) hp (kc _ (by omega)) (by rw [pt_bL_at]; exact hr R (by omega)) (kc c hc) (k c hc)
theorem pt_bep_in {pend : Nat → Int32} {w n : Nat} {ec ep : Nat → Int32} (he : ∀ i, ∃ p, p < 64 ∧ ep i = nI p) : ∀ R i, ∃ p, p < 64 ∧ pt_bep pend w n ec ep R i = nI p := by
  intro R
  induction R with
  | zero => exact he
  | succ R ih => exact pt_ep_in ih (Nat.le_refl 64)
end
section
/-! X: the small methods, and the calls that change one worker's counts -/
def pt_okW (W : Nat) (x : Int32) : Prop := ∃ j, j < W ∧ x = nI j
def pt_ok (x : Int32) : Prop := ∃ j, j < 4 ∧ x = nI j
def pt_fr (d : Nat) : Nat := if d = 0 then 0 else if d = 1 then 1 else 2
def pt_to (d : Nat) : Nat := if d = 1 then 2 else if d = 3 then 3 else 1
def pt_r2 (d r : Nat) : Nat := if d = 2 then r + 1 else r
theorem pt_10 : ¬ (1 : Int32) = 0 := by decide
theorem pt_fr_lt (d : Nat) : pt_fr d < 3 := by unfold pt_fr; split <;> (try split) <;> omega
theorem pt_to_lt (d : Nat) : pt_to d < 4 := by unfold pt_to; split <;> (try split) <;> omega
theorem pt_w64 (w p : Nat) : nI w * 64 + nI p = nI (64 * w + p) := by
  rw [show (64 : Int32) = nI 64 from rfl, pk_mul, nI_add, Nat.mul_comm]
theorem pt_w4 (w p : Nat) : nI w * 4 + nI p = nI (4 * w + p) := by
  rw [show (4 : Int32) = nI 4 from rfl, pk_mul, nI_add, Nat.mul_comm]
theorem pt_c32 (c : Nat) : nI c * 32 = nI (32 * c) := by
  rw [show (32 : Int32) = nI 32 from rfl, pk_mul, Nat.mul_comm]
theorem pt_ixE (a b c : Nat) : nI a * 16 + nI b * 4 + nI c = nI (16 * a + 4 * b + c) := by
  rw [show (16 : Int32) = nI 16 from rfl, show (4 : Int32) = nI 4 from rfl, pk_mul, pk_mul, nI_add, nI_add, Nat.mul_comm a, Nat.mul_comm b]
theorem pt_place (w a b c : Nat) : nI w * 64 + (nI a * 16 + nI b * 4 + nI c) = nI (64 * w + (16 * a + 4 * b + c)) := by
  rw [pt_ixE, pt_w64]
theorem pt_gainE {c a b m : Nat} (h : m + b = c + a) : nI c + (nI a - nI b) = nI m := by
  have e : nI m + nI b = nI c + nI a := by rw [nI_add, nI_add, h]
  rw [Int32.sub_eq_add_neg, ← Int32.add_assoc, ← e, Int32.add_assoc, Int32.add_right_neg, Int32.add_zero]
section
variable {ms ca pe vi bc bs ec ep ed : Nat → Int32} {W : Nat} {f0 : Int32}
theorem px_isW {post : Int32 → Prop} {w : Nat} (hW : W ≤ 4) (hw : w < W) (h : post 1) : wpX_isWorker post (nI W, ms, ca, pe, vi, bc, bs, ec, ep, ed) (nI w) :=
  br_f (nI_pos (by omega)) (br_f (nI_ge hw (by omega)) h)
theorem px_isWn {post : Int32 → Prop} {x : Int32} (hW : W ≤ 4) (hx : ¬ pt_okW W x) (h : post 0) : wpX_isWorker post (nI W, ms, ca, pe, vi, bc, bs, ec, ep, ed) x := by
  rcases pk_ix x (n := W) (by omega) with z | z | z
  · exact br_t z h
  · exact br_c (fun _ => h) (fun _ => br_t z h)
  · exact absurd z hx
theorem px_inR {post : Int32 → Prop} {a : Nat} (ha : a < 4) (h : post 1) : wpX_isInRange post (nI a) :=
  br_f (nI_pos (by omega)) (br_f (nI_nlt (a := 3) (b := a) (by omega) (by decide)) h)
theorem pt_3lt {x : Int32} (h : nI 4 ≤ x) : 3 < x := by
  rw [Int32.lt_iff_toInt_lt]
  rw [Int32.le_iff_toInt_le, nI_toInt (by decide)] at h
  have e : (3 : Int32).toInt = 3 := by decide
  omega
theorem px_inRn {post : Int32 → Prop} {x : Int32} (hx : ¬ pt_ok x) (h : post 0) : wpX_isInRange post x := by
  rcases pk_ix x (n := 4) (by decide) with z | z | z
  · exact br_t z h
  · exact br_c (fun _ => h) (fun _ => br_t (pt_3lt z) h)
  · exact absurd z hx
theorem px_areR {post : Int32 → Prop} {a b c : Nat} (ha : a < 4) (hb : b < 4) (hc : c < 4) (h : post 1) : wpX_areInRange post (nI a) (nI b) (nI c) := by
  unfold wpX_areInRange
  exact px_inR ha (br_f pt_10 (px_inR hb (br_f pt_10 (px_inR hc (br_f pt_10 h)))))
theorem px_areRn {post : Int32 → Prop} {x y z : Int32} (hn : ¬ (pt_ok x ∧ pt_ok y ∧ pt_ok z)) (h : post 0) : wpX_areInRange post x y z := by
  unfold wpX_areInRange
  by_cases h1 : pt_ok x
  · obtain ⟨a, ha, rfl⟩ := h1
    refine px_inR ha (br_f pt_10 ?_)
    by_cases h2 : pt_ok y
    · obtain ⟨b, hb, rfl⟩ := h2
      refine px_inR hb (br_f pt_10 ?_)
      exact px_inRn (fun h3 => hn ⟨⟨a, ha, rfl⟩, ⟨b, hb, rfl⟩, h3⟩) (br_t rfl h)
    · exact px_inRn h2 (br_t rfl h)
  · exact px_inRn h1 (br_t rfl h)
theorem px_g4 {bad body : Prop} {x a b c : Int32} (hW : W ≤ 4) (h0 : ¬ (pt_okW W x ∧ pt_ok a ∧ pt_ok b ∧ pt_ok c) → bad) (h1 : pt_okW W x → pt_ok a → pt_ok b → pt_ok c → body) :
    wpX_isWorker (fun r => (r = 0 → bad) ∧ (¬ r = 0 → wpX_areInRange (fun r' => (r' = 0 → bad) ∧ (¬ r' = 0 → body)) a b c)) (nI W, ms, ca, pe, vi, bc, bs, ec, ep, ed) x := by
  by_cases hx : pt_okW W x
  · obtain ⟨w, hw, rfl⟩ := hx
    refine px_isW hW hw (br_f pt_10 ?_)
    by_cases ha : pt_ok a ∧ pt_ok b ∧ pt_ok c
    · obtain ⟨⟨a, k1, rfl⟩, ⟨b, k2, rfl⟩, ⟨c, k3, rfl⟩⟩ := ha
      exact px_areR k1 k2 k3 (br_f pt_10 (h1 ⟨w, hw, rfl⟩ ⟨a, k1, rfl⟩ ⟨b, k2, rfl⟩ ⟨c, k3, rfl⟩))
    · exact px_areRn ha (br_t rfl (h0 (fun t => ha t.2)))
  · exact px_isWn hW hx (br_t rfl (h0 (fun t => hx t.1)))
theorem px_g3 {bad body : Prop} {a b c : Int32} (h0 : ¬ (pt_ok a ∧ pt_ok b ∧ pt_ok c) → bad) (h1 : pt_ok a → pt_ok b → pt_ok c → body) :
    wpX_areInRange (fun r' => (r' = 0 → bad) ∧ (¬ r' = 0 → body)) a b c := by
  by_cases ha : pt_ok a ∧ pt_ok b ∧ pt_ok c
  · obtain ⟨⟨a, k1, rfl⟩, ⟨b, k2, rfl⟩, ⟨c, k3, rfl⟩⟩ := ha
    exact px_areR k1 k2 k3 (br_f pt_10 (h1 ⟨a, k1, rfl⟩ ⟨b, k2, rfl⟩ ⟨c, k3, rfl⟩))
  · exact px_areRn ha (br_t rfl (h0 ha))
theorem px_g2 {bad body : Prop} {x a : Int32} (hW : W ≤ 4) (h0 : ¬ (pt_okW W x ∧ pt_ok a) → bad) (h1 : pt_okW W x → pt_ok a → body) :
    wpX_isWorker (fun r => (r = 0 → bad) ∧ (¬ r = 0 → wpX_isInRange (fun r' => (r' = 0 → bad) ∧ (¬ r' = 0 → body)) a)) (nI W, ms, ca, pe, vi, bc, bs, ec, ep, ed) x := by
  by_cases hx : pt_okW W x
  · obtain ⟨w, hw, rfl⟩ := hx
    refine px_isW hW hw (br_f pt_10 ?_)
    by_cases ha : pt_ok a
    · obtain ⟨a, k1, rfl⟩ := ha
      exact px_inR k1 (br_f pt_10 (h1 ⟨w, hw, rfl⟩ ⟨a, k1, rfl⟩))
    · exact px_inRn ha (br_t rfl (h0 (fun t => ha t.2)))
  · exact px_isWn hW hx (br_t rfl (h0 (fun t => hx t.1)))
theorem px_gWW {bad body : Prop} {x a : Int32} (hW : W ≤ 4) (h0 : ¬ (pt_okW W x ∧ pt_okW W a) → bad) (h1 : pt_okW W x → pt_okW W a → body) :
    wpX_isWorker (fun r => (r = 0 → bad) ∧ (¬ r = 0 → wpX_isWorker (fun r' => (r' = 0 → bad) ∧ (¬ r' = 0 → body)) (nI W, ms, ca, pe, vi, bc, bs, ec, ep, ed) a)) (nI W, ms, ca, pe, vi, bc, bs, ec, ep, ed) x := by
  by_cases hx : pt_okW W x
  · obtain ⟨w, hw, rfl⟩ := hx
    refine px_isW hW hw (br_f pt_10 ?_)
    by_cases ha : pt_okW W a
    · obtain ⟨a, k1, rfl⟩ := ha
      exact px_isW hW k1 (br_f pt_10 (h1 ⟨w, hw, rfl⟩ ⟨a, k1, rfl⟩))
    · exact px_isWn hW ha (br_t rfl (h0 (fun t => ha t.2)))
  · exact px_isWn hW hx (br_t rfl (h0 (fun t => hx t.1)))
theorem px_place {post : Int32 → Prop} {w a b c : Nat} (h : post (nI (64 * w + (16 * a + 4 * b + c)))) : wpX_placeOf post (nI w) (nI a) (nI b) (nI c) := by
  show post (nI w * 64 + (nI a * 16 + nI b * 4 + nI c))
  rw [pt_place]
  exact h
theorem px_point {post : Int32 → Prop} {a b c : Nat} (h : post (nI (16 * a + 4 * b + c))) : wpX_pointOf post (nI a) (nI b) (nI c) := by
  show post (nI a * 16 + nI b * 4 + nI c)
  rw [pt_ixE]
  exact h
theorem px_chan {post : Int32 → Prop} {s r : Nat} (h : post (nI (4 * s + r))) : wpX_channelOf post (nI s) (nI r) := by
  show post (nI s * 4 + nI r)
  rw [pt_w4]
  exact h
theorem px_before {post : Int32 → Prop} {d : Nat} (hd : d < 4) (h : post (nI (pt_fr d))) : wpX_operatorBefore post (nI d) := by
  have c : d = 0 ∨ d = 1 ∨ d = 2 ∨ d = 3 := by omega
  rcases c with rfl | rfl | rfl | rfl
  · exact br_t rfl h
  · exact br_f (by decide) (br_t rfl h)
  · exact br_f (by decide) (br_f (by decide) h)
  · exact br_f (by decide) (br_f (by decide) h)
theorem px_after {post : Int32 → Prop} {d : Nat} (hd : d < 4) (h : post (nI (pt_to d))) : wpX_operatorAfter post (nI d) := by
  have c : d = 0 ∨ d = 1 ∨ d = 2 ∨ d = 3 := by omega
  rcases c with rfl | rfl | rfl | rfl
  · exact br_f (by decide) (br_f (by decide) h)
  · exact br_t rfl h
  · exact br_f (by decide) (br_f (by decide) h)
  · exact br_f (by decide) (br_t rfl h)
theorem px_pend {post : Int32 → Prop} {w : Nat} (hw : w < 4) (h : post (nI (pt_cnt pe (64 * w) 64))) : wpX_pendingEntries post (f0, ms, ca, pe, vi, bc, bs, ec, ep, ed) (nI w) := by
  refine loop_0 (fun n i s => wX_pendingEntries_4 post (nI w) f0 ms ca pe vi bc bs ec ep ed n s (nI i)) (fun i s => s = nI (pt_cnt pe (64 * w) i)) 64 0 rfl ?_ ?_
  · intro n s hs
    exact pk_le 64 64 (fun _ => by rw [hs]; exact h) (fun z => absurd z (by omega))
  · intro n i s hi hs hn
    refine pk_le 64 i (fun z => absurd z (by omega)) (fun _ => ⟨pk_in (64 * w + i) 256 (by omega) (pt_w64 w i), ?_⟩)
    rw [pt_w64, nI_clamp (by omega)]
    by_cases z : pe (64 * w + i) = 0
    · refine br_t z (nm_r (nI_1 i) (hn _ ?_))
      rw [hs, pt_cnt_s, pt_nz_0 z]
      rfl
    · refine br_f z (nm_e (nm_r (nI_1 i) (hn _ ?_)))
      rw [hs, pt_cnt_s, pt_nz_1 z, nI_1]
theorem px_gain {post : Int32 → Prop} {q : Nat} {d : Int32} (hq : q < 256) (h : post (nI (pt_nz (pe q + d)) - nI (pt_nz (pe q)))) : wpX_entriesGained post (f0, ms, ca, pe, vi, bc, bs, ec, ep, ed) (nI q) d := by
  unfold wpX_entriesGained wX_entriesGained_14
  rw [nI_clamp (by omega)]
  have hi : vp_in (nI q) 256 := vp_in_nI hq (by omega)
  refine ⟨hi, ?_⟩
  by_cases z1 : pe q = 0
  · rw [pt_nz_0 z1] at h
    refine br_t z1 ⟨hi, ?_⟩
    by_cases z2 : pe q + d = 0
    · rw [pt_nz_0 z2] at h
      exact br_t z2 h
    · rw [pt_nz_1 z2] at h
      exact br_f z2 h
  · rw [pt_nz_1 z1] at h
    refine br_f z1 ⟨hi, ?_⟩
    by_cases z2 : pe q + d = 0
    · rw [pt_nz_0 z2] at h
      exact br_t z2 h
    · rw [pt_nz_1 z2] at h
      exact br_f z2 h
/-- how many entries worker w has with x at its point p -/
def pt_aft (pe : Nat → Int32) (w p : Nat) (x : Int32) : Nat := pt_cnt (upd pe (64 * w + p) x) (64 * w) 64
theorem pt_aft_le (pe : Nat → Int32) (w p : Nat) (x : Int32) : pt_aft pe w p x ≤ 64 := pt_cnt_le _ _ _
theorem pt_aft_e {w p : Nat} {d : Int32} (hp : p < 64) : nI (pt_cnt pe (64 * w) 64) + (nI (pt_nz (pe (64 * w + p) + d)) - nI (pt_nz (pe (64 * w + p)))) = nI (pt_aft pe w p (pe (64 * w + p) + d)) :=
  pt_gainE (pt_cnt_upd hp)
theorem px_send60 {post : Int32 → SX → Prop} {w d e r : Nat} (hw : w < 4) (hd : d < 4) (he : e < 4) (hr : r < 5)
    (h4 : 3 < r → post (-4) (f0, ms, ca, pe, vi, bc, bs, ec, ep, ed))
    (h6 : r ≤ 3 → 16 < pt_aft pe w (16 * pt_to d + 4 * e + r) (pe (64 * w + (16 * pt_to d + 4 * e + r)) + 1) → post (-6) (f0, ms, ca, pe, vi, bc, bs, ec, ep, ed))
    (h0 : r ≤ 3 → pt_aft pe w (16 * pt_to d + 4 * e + r) (pe (64 * w + (16 * pt_to d + 4 * e + r)) + 1) ≤ 16 →
      post 0 (f0, upd ms (16 * pt_to d + 4 * e + r) (ms (16 * pt_to d + 4 * e + r) + 1), ca, upd pe (64 * w + (16 * pt_to d + 4 * e + r)) (pe (64 * w + (16 * pt_to d + 4 * e + r)) + 1), vi, bc, bs, ec, ep, ed)) :
    wX_send_60 post (nI w) (nI d) (nI e) (nI r) f0 ms ca pe vi bc bs ec ep ed := by
  have ht := pt_to_lt d
  have hal := pt_aft_le pe w (16 * pt_to d + 4 * e + r) (pe (64 * w + (16 * pt_to d + 4 * e + r)) + 1)
  unfold wX_send_60
  refine pk_le r 3 (fun h3 => ?_) (fun h3 => h4 h3)
  have h6' := h6 h3
  have h0' := h0 h3
  have hp : 16 * pt_to d + 4 * e + r < 64 := by omega
  have hi1 : vp_in (nI (16 * pt_to d + 4 * e + r)) 64 := vp_in_nI hp (by omega)
  have hi2 : vp_in (nI (64 * w + (16 * pt_to d + 4 * e + r))) 256 := vp_in_nI (by omega) (by omega)
  have ec1 : (nI (16 * pt_to d + 4 * e + r)).toNatClampNeg = 16 * pt_to d + 4 * e + r := nI_clamp (by omega)
  have ec2 : (nI (64 * w + (16 * pt_to d + 4 * e + r))).toNatClampNeg = 64 * w + (16 * pt_to d + 4 * e + r) := nI_clamp (by omega)
  refine px_after hd (px_place (px_pend hw (px_gain (by omega) ?_)))
  rw [pt_aft_e hp]
  refine pk_le _ 16 (fun h => px_point ⟨hi1, hi1, ?_⟩) (fun h => h6' h)
  rw [ec1]
  refine nm_e ⟨hi2, hi2, ?_⟩
  rw [ec2]
  exact nm_e (h0' h)
theorem px_send {post : Int32 → SX → Prop} {w d e r : Nat} (hW : W ≤ 4) (hw : w < W) (hd : d < 4) (he : e < 4) (hr : r < 4)
    (h2 : ca (64 * w + (16 * pt_fr d + 4 * e + r)) = 0 → post (-2) (nI W, ms, ca, pe, vi, bc, bs, ec, ep, ed))
    (h4 : ¬ ca (64 * w + (16 * pt_fr d + 4 * e + r)) = 0 → 3 < pt_r2 d r → post (-4) (nI W, ms, ca, pe, vi, bc, bs, ec, ep, ed))
    (h6 : ¬ ca (64 * w + (16 * pt_fr d + 4 * e + r)) = 0 → pt_r2 d r ≤ 3 → 16 < pt_aft pe w (16 * pt_to d + 4 * e + pt_r2 d r) (pe (64 * w + (16 * pt_to d + 4 * e + pt_r2 d r)) + 1) → post (-6) (nI W, ms, ca, pe, vi, bc, bs, ec, ep, ed))
    (h0 : ¬ ca (64 * w + (16 * pt_fr d + 4 * e + r)) = 0 → pt_r2 d r ≤ 3 → pt_aft pe w (16 * pt_to d + 4 * e + pt_r2 d r) (pe (64 * w + (16 * pt_to d + 4 * e + pt_r2 d r)) + 1) ≤ 16 →
      post 0 (nI W, upd ms (16 * pt_to d + 4 * e + pt_r2 d r) (ms (16 * pt_to d + 4 * e + pt_r2 d r) + 1), ca, upd pe (64 * w + (16 * pt_to d + 4 * e + pt_r2 d r)) (pe (64 * w + (16 * pt_to d + 4 * e + pt_r2 d r)) + 1), vi, bc, bs, ec, ep, ed)) :
    wpX_send post (nI W, ms, ca, pe, vi, bc, bs, ec, ep, ed) (nI w) (nI d) (nI e) (nI r) := by
  have hf := pt_fr_lt d
  unfold wpX_send
  refine px_isW hW hw (br_f pt_10 (px_areR hd he hr (br_f pt_10 (px_before hd (px_place ⟨vp_in_nI (by omega) (by omega), ?_⟩)))))
  rw [nI_clamp (by omega)]
  refine br_c h2 (fun hc => ?_)
  by_cases z : d = 2
  · have e2 : pt_r2 d r = r + 1 := if_pos z
    rw [e2] at h4 h6 h0
    refine br_t (by rw [z]; rfl) ?_
    rw [nI_1]
    exact px_send60 (by omega) hd he (by omega) (h4 hc) (h6 hc) (h0 hc)
  · have e2 : pt_r2 d r = r := if_neg z
    rw [e2] at h4 h6 h0
    refine br_f (fun t => z ((nI_eq (by omega) (by decide)).mp t)) ?_
    exact px_send60 (by omega) hd he (by omega) (h4 hc) (h6 hc) (h0 hc)
theorem px_receive {post : Int32 → SX → Prop} {w a e r : Nat} (hW : W ≤ 4) (hw : w < W) (ha : a < 4) (he : e < 4) (hr : r < 4)
    (h3 : ms (16 * a + 4 * e + r) = 0 → post (-3) (nI W, ms, ca, pe, vi, bc, bs, ec, ep, ed))
    (h0 : ¬ ms (16 * a + 4 * e + r) = 0 → post 0 (nI W, upd ms (16 * a + 4 * e + r) (ms (16 * a + 4 * e + r) - 1), upd ca (64 * w + (16 * a + 4 * e + r)) (ca (64 * w + (16 * a + 4 * e + r)) + 1), pe, vi, bc, bs, ec, ep, ed)) :
    wpX_receive post (nI W, ms, ca, pe, vi, bc, bs, ec, ep, ed) (nI w) (nI a) (nI e) (nI r) := by
  unfold wpX_receive
  have hi1 : vp_in (nI (16 * a + 4 * e + r)) 64 := vp_in_nI (by omega) (by omega)
  have hi2 : vp_in (nI (64 * w + (16 * a + 4 * e + r))) 256 := vp_in_nI (by omega) (by omega)
  refine px_isW hW hw (br_f pt_10 (px_areR ha he hr (br_f pt_10 (px_point ⟨hi1, ?_⟩))))
  rw [nI_clamp (by omega)]
  refine br_c h3 (fun hc => ⟨hi1, hi1, nm_e (px_place ⟨hi2, hi2, ?_⟩)⟩)
  rw [nI_clamp (by omega)]
  exact nm_e (h0 hc)
theorem px_drop {post : Int32 → SX → Prop} {w a e r : Nat} (hW : W ≤ 4) (hw : w < W) (ha : a < 4) (he : e < 4) (hr : r < 4)
    (h2 : ca (64 * w + (16 * a + 4 * e + r)) = 0 → post (-2) (nI W, ms, ca, pe, vi, bc, bs, ec, ep, ed))
    (h6 : ¬ ca (64 * w + (16 * a + 4 * e + r)) = 0 → 16 < pt_aft pe w (16 * a + 4 * e + r) (pe (64 * w + (16 * a + 4 * e + r)) + (-1)) → post (-6) (nI W, ms, ca, pe, vi, bc, bs, ec, ep, ed))
    (h0 : ¬ ca (64 * w + (16 * a + 4 * e + r)) = 0 → pt_aft pe w (16 * a + 4 * e + r) (pe (64 * w + (16 * a + 4 * e + r)) + (-1)) ≤ 16 →
      post 0 (nI W, ms, upd ca (64 * w + (16 * a + 4 * e + r)) (ca (64 * w + (16 * a + 4 * e + r)) - 1), upd pe (64 * w + (16 * a + 4 * e + r)) (pe (64 * w + (16 * a + 4 * e + r)) - 1), vi, bc, bs, ec, ep, ed)) :
    wpX_drop post (nI W, ms, ca, pe, vi, bc, bs, ec, ep, ed) (nI w) (nI a) (nI e) (nI r) := by
  have hal := pt_aft_le pe w (16 * a + 4 * e + r) (pe (64 * w + (16 * a + 4 * e + r)) + (-1))
  unfold wpX_drop
  have hi2 : vp_in (nI (64 * w + (16 * a + 4 * e + r))) 256 := vp_in_nI (by omega) (by omega)
  have ec2 : (nI (64 * w + (16 * a + 4 * e + r))).toNatClampNeg = 64 * w + (16 * a + 4 * e + r) := nI_clamp (by omega)
  refine px_isW hW hw (br_f pt_10 (px_areR ha he hr (br_f pt_10 (px_place ⟨hi2, ?_⟩))))
  rw [ec2]
  refine br_c h2 (fun hc => px_pend (by omega) (px_gain (by omega) ?_))
  rw [pt_aft_e (by omega)]
  exact pk_le _ 16 (fun h => ⟨hi2, hi2, nm_e ⟨hi2, hi2, nm_e (h0 hc h)⟩⟩) (fun h => h6 hc h)
end
end
section
/-! X: advanceInput, broadcast, deliver -/
/-- how many entries worker w has with x at its point p and y at q -/
def pt_aft2 (pe : Nat → Int32) (w p q : Nat) (x y : Int32) : Nat := pt_cnt (upd (upd pe (64 * w + p) x) (64 * w + q) y) (64 * w) 64
theorem pt_aft2_le (pe : Nat → Int32) (w p q : Nat) (x y : Int32) : pt_aft2 pe w p q x y ≤ 64 := pt_cnt_le _ _ _
theorem pt_aft2_e {pe : Nat → Int32} {w p q : Nat} {d1 d2 : Int32} (hp : p < 64) (hq : q < 64) (hn : p ≠ q) :
    nI (pt_cnt pe (64 * w) 64) + ((nI (pt_nz (pe (64 * w + p) + d1)) - nI (pt_nz (pe (64 * w + p)))) + (nI (pt_nz (pe (64 * w + q) + d2)) - nI (pt_nz (pe (64 * w + q))))) = nI (pt_aft2 pe w p q (pe (64 * w + p) + d1) (pe (64 * w + q) + d2)) := by
  have h1 := pt_cnt_upd (f := pe) (b := 64 * w) (q := p) (x := pe (64 * w + p) + d1) (n := 64) hp
  have h2 := pt_cnt_upd (f := upd pe (64 * w + p) (pe (64 * w + p) + d1)) (b := 64 * w) (q := q) (x := pe (64 * w + q) + d2) (n := 64) hq
  rw [pk_un (show 64 * w + q ≠ 64 * w + p by omega)] at h2
  rw [← Int32.add_assoc, pt_gainE h1, pt_gainE h2]
  rfl
section
variable {ms ca pe vi bc bs ec ep ed : Nat → Int32} {W : Nat} {f0 : Int32}
theorem px_adv {post : Int32 → SX → Prop} {w e : Nat} (hW : W ≤ 4) (hw : w < W) (he : e < 4)
    (h2 : ca (64 * w + 4 * e) = 0 → post (-2) (nI W, ms, ca, pe, vi, bc, bs, ec, ep, ed))
    (h5 : ¬ ca (64 * w + 4 * e) = 0 → e = 3 → post (-5) (nI W, ms, ca, pe, vi, bc, bs, ec, ep, ed))
    (h6 : ¬ ca (64 * w + 4 * e) = 0 → e < 3 → 16 < pt_aft2 pe w (4 * e) (4 * (e + 1)) (pe (64 * w + 4 * e) + (-1)) (pe (64 * w + 4 * (e + 1)) + 1) → post (-6) (nI W, ms, ca, pe, vi, bc, bs, ec, ep, ed))
    (h0 : ¬ ca (64 * w + 4 * e) = 0 → e < 3 → pt_aft2 pe w (4 * e) (4 * (e + 1)) (pe (64 * w + 4 * e) + (-1)) (pe (64 * w + 4 * (e + 1)) + 1) ≤ 16 →
      post 0 (nI W, ms, upd (upd ca (64 * w + 4 * e) (ca (64 * w + 4 * e) - 1)) (64 * w + 4 * (e + 1)) (upd ca (64 * w + 4 * e) (ca (64 * w + 4 * e) - 1) (64 * w + 4 * (e + 1)) + 1), upd (upd pe (64 * w + 4 * e) (pe (64 * w + 4 * e) - 1)) (64 * w + 4 * (e + 1)) (upd pe (64 * w + 4 * e) (pe (64 * w + 4 * e) - 1) (64 * w + 4 * (e + 1)) + 1), vi, bc, bs, ec, ep, ed)) :
    wpX_advanceInput post (nI W, ms, ca, pe, vi, bc, bs, ec, ep, ed) (nI w) (nI e) := by
  have hal := pt_aft2_le pe w (4 * e) (4 * (e + 1)) (pe (64 * w + 4 * e) + (-1)) (pe (64 * w + 4 * (e + 1)) + 1)
  unfold wpX_advanceInput
  have hi1 : vp_in (nI (64 * w + 4 * e)) 256 := vp_in_nI (by omega) (by omega)
  have ec1 : (nI (64 * w + 4 * e)).toNatClampNeg = 64 * w + 4 * e := nI_clamp (by omega)
  refine px_isW hW hw (br_f pt_10 (px_inR he (br_f pt_10 (px_place (a := 0) (c := 0) ?_))))
  rw [show 64 * w + (16 * 0 + 4 * e + 0) = 64 * w + 4 * e by omega]
  refine ⟨hi1, ?_⟩
  rw [ec1]
  refine br_c h2 (fun hc => ?_)
  refine pk_eq e 3 (fun z => h5 hc z) (fun z => ?_)
  rw [nI_1 e]
  refine px_place (a := 0) (c := 0) ?_
  rw [show 64 * w + (16 * 0 + 4 * (e + 1) + 0) = 64 * w + 4 * (e + 1) by omega]
  have hi2 : vp_in (nI (64 * w + 4 * (e + 1))) 256 := vp_in_nI (by omega) (by omega)
  have ec2 : (nI (64 * w + 4 * (e + 1))).toNatClampNeg = 64 * w + 4 * (e + 1) := nI_clamp (by omega)
  refine px_gain (by omega) (px_gain (by omega) (nm_e (px_pend (by omega) ?_)))
  rw [pt_aft2_e (by omega) (by omega) (by omega), ec2]
  exact pk_le _ 16 (fun h => ⟨hi1, hi1, nm_e ⟨hi1, hi1, nm_e ⟨hi2, hi2, nm_e ⟨hi2, hi2, nm_e (h0 hc (by omega) h)⟩⟩⟩⟩) (fun h => h6 hc (by omega) h)
theorem px_room {post : Int32 → Prop} {w n : Nat} (hW : W ≤ 4) (hw : w < W) (h1 : (∀ r, r < W → ec (4 * w + r) ≤ 32 - nI n) → post 1) (h0 : (∃ r, r < W ∧ ¬ ec (4 * w + r) ≤ 32 - nI n) → post 0) :
    wpX_haveChannelsRoom post (nI W, ms, ca, pe, vi, bc, bs, ec, ep, ed) (nI w) (nI n) := by
  refine loop_0 (σ := Unit) (fun k i _ => wX_haveChannelsRoom_2 post (nI w) (nI n) (nI W) ms ca pe vi bc bs ec ep ed k (nI i)) (fun i _ => ∀ r, r < i → ec (4 * w + r) ≤ 32 - nI n) W () (fun r hr => absurd hr (by omega)) ?_ ?_
  · intro k _ hs
    exact pk_le W W (fun _ => h1 hs) (fun z => absurd z (by omega))
  · intro k i _ hi hs hn
    refine pk_le W i (fun z => absurd z (by omega)) (fun _ => px_chan ⟨vp_in_nI (by omega) (by omega), ?_⟩)
    rw [nI_clamp (by omega)]
    by_cases z : ec (4 * w + i) ≤ 32 - nI n
    · refine br_t z (nm_r (nI_1 i) (hn () (fun r hr => ?_)))
      by_cases e : r = i
      · rw [e]; exact z
      · exact hs r (by omega)
    · exact br_f z (h0 ⟨i, hi, z⟩)
theorem px_append {post : SX → Prop} {w r n len bl : Nat} (hw : w < 4) (hr : r < 4) (hn : pt_cnt pe (64 * w) 64 = n) (hlen : ec (4 * w + r) = nI len) (hbl : bc (4 * w + r) = nI bl) (hroom : len + n ≤ 32) (hb : bl < 32)
    (h : post (f0, ms, ca, pe, vi, upd bc (4 * w + r) (bc (4 * w + r) + 1), upd bs (32 * (4 * w + r) + (bc (4 * w + r)).toNatClampNeg) (nI n), upd ec (4 * w + r) (ec (4 * w + r) + nI n),
      pt_ep pe (64 * w) (32 * (4 * w + r) + (ec (4 * w + r)).toNatClampNeg) ep 64, pt_ed pe (64 * w) (32 * (4 * w + r) + (ec (4 * w + r)).toNatClampNeg) ed 64)) :
    wpX_appendPending post (f0, ms, ca, pe, vi, bc, bs, ec, ep, ed) (nI w) (nI r) (nI n) := by
  have e1 : (bc (4 * w + r)).toNatClampNeg = bl := by rw [hbl, nI_clamp (by omega)]
  have e2 : (ec (4 * w + r)).toNatClampNeg = len := by rw [hlen, nI_clamp (by omega)]
  rw [e1, e2] at h
  have hc : (nI (4 * w + r)).toNatClampNeg = 4 * w + r := nI_clamp (by omega)
  have hi : vp_in (nI (4 * w + r)) 16 := vp_in_nI (by omega) (by omega)
  unfold wpX_appendPending
  refine px_chan (nm_r (pt_c32 (4 * w + r)) ⟨hi, ?_⟩)
  rw [hc, hlen, nI_add]
  refine nm_e ?_
  refine loop_0 (fun k i (s : Int32 × (Nat → Int32) × (Nat → Int32)) => wX_appendPending_29 post (nI w) (nI n) (nI (4 * w + r)) (nI (32 * (4 * w + r))) f0 k s.1 (nI i) ms ca pe vi bc bs ec s.2.1 s.2.2)
    (fun i s => s = (nI (32 * (4 * w + r) + len + pt_cnt pe (64 * w) i), pt_ep pe (64 * w) (32 * (4 * w + r) + len) ep i, pt_ed pe (64 * w) (32 * (4 * w + r) + len) ed i)) 64 (nI (32 * (4 * w + r) + len), ep, ed) rfl ?_ ?_
  · rintro k s rfl
    refine pk_le 64 64 (fun _ => ⟨hi, ?_⟩) (fun z => absurd z (by omega))
    rw [hc, hbl, nI_add, nI_clamp (by omega)]
    refine ⟨vp_in_nI (by omega) (by omega), nm_e ⟨hi, hi, nm_e ⟨hi, hi, nm_e ?_⟩⟩⟩
    rw [hbl] at h
    exact h
  · rintro k i s hi' rfl hn'
    have hcl := pt_cnt_mono pe (64 * w) (show i + 1 ≤ 64 by omega)
    rw [pt_cnt_s, hn] at hcl
    refine pk_le 64 i (fun z => absurd z (by omega)) (fun _ => ⟨pk_in (64 * w + i) 256 (by omega) (pt_w64 w i), ?_⟩)
    rw [pt_w64, nI_clamp (show 64 * w + i < 2 ^ 31 by omega)]
    refine nm_e ?_
    by_cases z : pe (64 * w + i) = 0
    · refine br_t z (nm_r (nI_1 i) (hn' (_, _, _) ?_))
      rw [pt_cnt_s, pt_nz_0 z, pt_ep_z z, pt_ed_z z]
      rfl
    · rw [pt_nz_1 z] at hcl
      have hx : vp_in (nI (32 * (4 * w + r) + len + pt_cnt pe (64 * w) i)) 512 := vp_in_nI (by omega) (by omega)
      refine br_f z ⟨hx, nm_e ⟨hx, nm_e (nm_r (nI_1 _) (nm_r (nI_1 i) (hn' (_, _, _) ?_)))⟩⟩
      dsimp only
      rw [pt_cnt_s, pt_nz_1 z, pt_ep_p z, pt_ed_p z, nI_clamp (by omega)]
      rfl
theorem px_clear {post : SX → Prop} {w : Nat} (hw : w < 4) (h : post (f0, ms, ca, pt_clr (64 * w) pe 64, vi, bc, bs, ec, ep, ed)) : wpX_clearPending post (f0, ms, ca, pe, vi, bc, bs, ec, ep, ed) (nI w) := by
  refine loop_0 (fun k i s => wX_clearPending_2 post (nI w) f0 k (nI i) ms ca s vi bc bs ec ep ed) (fun i s => s = pt_clr (64 * w) pe i) 64 pe rfl ?_ ?_
  · rintro k s rfl
    exact pk_le 64 64 (fun _ => h) (fun z => absurd z (by omega))
  · rintro k i s hi rfl hn
    refine pk_le 64 i (fun z => absurd z (by omega)) (fun _ => ⟨pk_in (64 * w + i) 256 (by omega) (pt_w64 w i), ?_⟩)
    rw [pt_w64, nI_clamp (by omega)]
    exact nm_e (nm_r (nI_1 i) (hn _ rfl))
theorem px_bloop {post : Int32 → SX → Prop} {w n : Nat} (hW : W ≤ 4) (hw : w < W) (hn : pt_cnt pe (64 * w) 64 = n)
    (H : ∀ r, r < W → ∃ len bl, ec (4 * w + r) = nI len ∧ bc (4 * w + r) = nI bl ∧ len + n ≤ 32 ∧ bl < 32)
    (h : post (nI n) (nI W, ms, ca, pt_clr (64 * w) pe 64, vi, pt_bbc w bc W, pt_bbs w n bc bs W, pt_bec w n ec W, pt_bep pe w n ec ep W, pt_bed pe w n ec ed W)) :
    ∃ k, wX_broadcast_37 post (nI w) (nI n) k 0 (nI W) ms ca pe vi bc bs ec ep ed := by
  refine loop_0 (fun k i (s : (Nat → Int32) × (Nat → Int32) × (Nat → Int32) × (Nat → Int32) × (Nat → Int32)) => wX_broadcast_37 post (nI w) (nI n) k (nI i) (nI W) ms ca pe vi s.1 s.2.1 s.2.2.1 s.2.2.2.1 s.2.2.2.2)
    (fun i s => s = (pt_bbc w bc i, pt_bbs w n bc bs i, pt_bec w n ec i, pt_bep pe w n ec ep i, pt_bed pe w n ec ed i)) W (bc, bs, ec, ep, ed) rfl ?_ ?_
  · rintro k s rfl
    exact pk_le W W (fun _ => px_clear (by omega) h) (fun z => absurd z (by omega))
  · rintro k i s hi rfl hk
    obtain ⟨len, bl, q1, q2, q3, q4⟩ := H i hi
    refine pk_le W i (fun z => absurd z (by omega)) (fun _ => px_append (len := len) (bl := bl) (by omega) (by omega) hn ?_ ?_ q3 q4 ?_)
    · dsimp only
      rw [pt_bec_hi (by omega), q1]
    · dsimp only
      rw [pt_bbc_hi (by omega), q2]
    · exact nm_r (nI_1 i) (hk (_, _, _, _, _) rfl)
theorem pt_roomE {len n : Nat} (hl : len ≤ 32) (hn : n ≤ 64) : nI len ≤ 32 - nI n ↔ len + n ≤ 32 := by
  have e : (32 - nI n : Int32).toInt = 32 - (n : Int) := pk_sub_toInt (a := 32) (by decide) (by omega)
  rw [Int32.le_iff_toInt_le, e, nI_toInt (by omega)]
  omega
theorem px_broadcast {post : Int32 → SX → Prop} {w n : Nat} (hW : W ≤ 4) (hw : w < W) (hn : pt_cnt pe (64 * w) 64 = n) (H : ∀ r, r < W → ∃ l, pt_ch l (4 * w + r) bc bs ec)
    (h8 : n = 0 → post (-8) (nI W, ms, ca, pe, vi, bc, bs, ec, ep, ed))
    (h7 : 1 ≤ n → (∃ r, r < W ∧ ¬ ec (4 * w + r) ≤ 32 - nI n) → post (-7) (nI W, ms, ca, pe, vi, bc, bs, ec, ep, ed))
    (h0 : 1 ≤ n → (∀ r, r < W → ec (4 * w + r) ≤ 32 - nI n) → post (nI n) (nI W, ms, ca, pt_clr (64 * w) pe 64, vi, pt_bbc w bc W, pt_bbs w n bc bs W, pt_bec w n ec W, pt_bep pe w n ec ep W, pt_bed pe w n ec ed W)) :
    wpX_broadcast post (nI W, ms, ca, pe, vi, bc, bs, ec, ep, ed) (nI w) := by
  have hle := pt_cnt_le pe (64 * w) 64
  unfold wpX_broadcast
  refine px_isW hW hw (br_f pt_10 (px_pend (by omega) ?_))
  rw [hn] at hle ⊢
  refine pk_eq n 0 (fun z => h8 z) (fun z => px_room hW hw (fun hr => br_f pt_10 ?_) (fun hr => br_t rfl (h7 (by omega) hr)))
  refine px_bloop hW hw hn (fun r hr' => ?_) (h0 (by omega) hr)
  obtain ⟨l, hl⟩ := H r hr'
  have hq := hr r hr'
  have hs := hl.2.1
  rw [hl.2.2.2.1, pt_roomE hs hle] at hq
  have := pt_len_sum hl.1
  exact ⟨pt_sum l, l.length, hl.2.2.2.1, hl.2.2.1, hq, by omega⟩
theorem px_apply {post : SX → Prop} {c r a : Nat} (hc : c < 16) (hr : r < 4) (ha : a ≤ 32) (he : ∀ i, ∃ p, p < 64 ∧ ep i = nI p) (h : post (f0, ms, ca, pe, pt_vw ep ed (32 * c) (64 * r) vi a, bc, bs, ec, ep, ed)) :
    wpX_applyOldest post (f0, ms, ca, pe, vi, bc, bs, ec, ep, ed) (nI c) (nI r) (nI a) := by
  unfold wpX_applyOldest
  refine nm_r (pt_c32 c) ?_
  refine loop_0 (fun k i s => wX_applyOldest_9 post (nI r) (nI a) (nI (32 * c)) f0 k (nI i) ms ca pe s bc bs ec ep ed) (fun i s => s = pt_vw ep ed (32 * c) (64 * r) vi i) a vi rfl ?_ ?_
  · rintro k s rfl
    exact pk_le a a (fun _ => h) (fun z => absurd z (by omega))
  · rintro k i s hi rfl hn
    obtain ⟨p, hp, e⟩ := he (32 * c + i)
    refine pk_le a i (fun z => absurd z (by omega)) (fun _ => ?_)
    rw [nI_add, nI_clamp (show 32 * c + i < 2 ^ 31 by omega), e, pt_w64, nI_clamp (show 64 * r + p < 2 ^ 31 by omega)]
    have hi1 : vp_in (nI (32 * c + i)) 512 := vp_in_nI (by omega) (by omega)
    have hi2 : vp_in (nI (64 * r + p)) 256 := vp_in_nI (by omega) (by omega)
    refine ⟨hi1, hi2, hi1, hi2, nm_e (nm_r (nI_1 i) (hn _ ?_))⟩
    show _ = upd (pt_vw ep ed (32 * c) (64 * r) vi i) (64 * r + (ep (32 * c + i)).toNatClampNeg) (pt_vw ep ed (32 * c) (64 * r) vi i (64 * r + (ep (32 * c + i)).toNatClampNeg) + ed (32 * c + i))
    rw [e, nI_clamp (show p < 2 ^ 31 by omega)]
theorem px_remE {post : SX → Prop} {c a b : Nat} (hc : c < 16) (hab : a + b ≤ 32) (hec : ec c = nI (a + b)) (h : post (f0, ms, ca, pe, vi, bc, bs, upd ec c (nI b), pt_sh a (32 * c) ep b, pt_sh a (32 * c) ed b)) :
    wpX_removeOldestEntries post (f0, ms, ca, pe, vi, bc, bs, ec, ep, ed) (nI c) (nI a) := by
  unfold wpX_removeOldestEntries
  have hcc : (nI c).toNatClampNeg = c := nI_clamp (by omega)
  have hi : vp_in (nI c) 16 := vp_in_nI hc (by omega)
  refine nm_r (pt_c32 c) ⟨hi, ?_⟩
  rw [hcc, hec, pk_sub (by omega), show a + b - a = b by omega]
  refine nm_e ?_
  refine loop_0 (fun k i (s : (Nat → Int32) × (Nat → Int32)) => wX_removeOldestEntries_18 post (nI c) (nI a) (nI (32 * c)) (nI b) f0 k (nI i) ms ca pe vi bc bs ec s.1 s.2) (fun i s => s = (pt_sh a (32 * c) ep i, pt_sh a (32 * c) ed i)) b (ep, ed) rfl ?_ ?_
  · rintro k s rfl
    refine pk_le b b (fun _ => ⟨hi, ?_⟩) (fun z => absurd z (by omega))
    rw [hcc]
    exact nm_e h
  · rintro k i s hi' rfl hn
    refine pk_le b i (fun z => absurd z (by omega)) (fun _ => ?_)
    rw [nI_add, nI_add, nI_clamp (show 32 * c + i + a < 2 ^ 31 by omega), nI_clamp (show 32 * c + i < 2 ^ 31 by omega)]
    have hi1 : vp_in (nI (32 * c + i + a)) 512 := vp_in_nI (by omega) (by omega)
    have hi2 : vp_in (nI (32 * c + i)) 512 := vp_in_nI (by omega) (by omega)
    exact ⟨hi1, hi2, nm_e ⟨hi1, hi2, nm_e (nm_r (nI_1 i) (hn (_, _) rfl))⟩⟩
theorem px_remS {post : SX → Prop} {c b : Nat} (hc : c < 16) (hb : b < 32) (hbc : bc c = nI (b + 1)) (h : post (f0, ms, ca, pe, vi, upd bc c (nI b), pt_sh 1 (32 * c) bs b, ec, ep, ed)) :
    wpX_removeOldestSize post (f0, ms, ca, pe, vi, bc, bs, ec, ep, ed) (nI c) := by
  unfold wpX_removeOldestSize
  have hcc : (nI c).toNatClampNeg = c := nI_clamp (by omega)
  have hi : vp_in (nI c) 16 := vp_in_nI hc (by omega)
  refine nm_r (pt_c32 c) ⟨hi, ?_⟩
  rw [hcc, hbc, nI_pred]
  refine nm_e ?_
  refine loop_0 (fun k i s => wX_removeOldestSize_17 post (nI c) (nI (32 * c)) (nI b) f0 k (nI i) ms ca pe vi bc s ec ep ed) (fun i s => s = pt_sh 1 (32 * c) bs i) b bs rfl ?_ ?_
  · rintro k s rfl
    refine pk_le b b (fun _ => ⟨hi, ?_⟩) (fun z => absurd z (by omega))
    rw [hcc]
    exact nm_e h
  · rintro k i s hi' rfl hn
    refine pk_le b i (fun z => absurd z (by omega)) (fun _ => ?_)
    rw [nI_add, nI_1, nI_clamp (show 32 * c + i + 1 < 2 ^ 31 by omega), nI_clamp (show 32 * c + i < 2 ^ 31 by omega)]
    have hi1 : vp_in (nI (32 * c + i + 1)) 512 := vp_in_nI (by omega) (by omega)
    have hi2 : vp_in (nI (32 * c + i)) 512 := vp_in_nI (by omega) (by omega)
    exact ⟨hi1, hi2, nm_e (nm_r (nI_1 i) (hn _ rfl))⟩
theorem px_deliver0 {post : Int32 → SX → Prop} {s r : Nat} (hW : W ≤ 4) (hs : s < W) (hr : r < W) (h0 : bc (4 * s + r) = 0) (h : post (-8) (nI W, ms, ca, pe, vi, bc, bs, ec, ep, ed)) :
    wpX_deliver post (nI W, ms, ca, pe, vi, bc, bs, ec, ep, ed) (nI s) (nI r) := by
  unfold wpX_deliver
  refine px_isW hW hs (br_f pt_10 (px_isW hW hr (br_f pt_10 (px_chan ⟨vp_in_nI (by omega) (by omega), ?_⟩))))
  rw [nI_clamp (by omega)]
  exact br_t h0 h
theorem px_deliver {post : Int32 → SX → Prop} {s r a : Nat} {l : List Nat} (hW : W ≤ 4) (hs : s < W) (hr : r < W) (he : ∀ i, ∃ p, p < 64 ∧ ep i = nI p) (hl : pt_ch (a :: l) (4 * s + r) bc bs ec)
    (h : post (nI a) (nI W, ms, ca, pe, pt_vw ep ed (32 * (4 * s + r)) (64 * r) vi a, upd bc (4 * s + r) (nI l.length), pt_sh 1 (32 * (4 * s + r)) bs l.length, upd ec (4 * s + r) (nI (pt_sum l)), pt_sh a (32 * (4 * s + r)) ep (pt_sum l), pt_sh a (32 * (4 * s + r)) ed (pt_sum l))) :
    wpX_deliver post (nI W, ms, ca, pe, vi, bc, bs, ec, ep, ed) (nI s) (nI r) := by
  have hsum : a + pt_sum l ≤ 32 := hl.2.1
  have hec : ec (4 * s + r) = nI (a + pt_sum l) := hl.2.2.2.1
  have hbc : bc (4 * s + r) = nI (l.length + 1) := hl.2.2.1
  have hbs : bs (32 * (4 * s + r)) = nI a := hl.2.2.2.2.1
  have hlen := pt_len_sum (pt_all1_c hl.1).2
  have ha1 := (pt_all1_c hl.1).1
  unfold wpX_deliver
  refine px_isW hW hs (br_f pt_10 (px_isW hW hr (br_f pt_10 (px_chan ⟨vp_in_nI (by omega) (by omega), ?_⟩))))
  rw [nI_clamp (by omega)]
  refine br_f (by rw [hbc]; exact nI_ne0 (by omega) (by omega)) ?_
  rw [pt_c32, nI_clamp (by omega), hbs]
  refine ⟨vp_in_nI (by omega) (by omega), nm_e ?_⟩
  refine px_apply (by omega) (by omega) (by omega) he ?_
  refine px_remE (by omega) hsum hec ?_
  exact px_remS (by omega) (by omega) hbc h
end
end
section
/-! X: the calls that only ask -/
def pt_KI (a b : Nat) : Int32 := if a = b then 0 else if a = 3 then -1 else if b = 0 then -1 else if a = 2 then (if b = 1 then 1 else 0) else 0
theorem pt_KI_K : ∀ a, a < 4 → ∀ b, b < 4 → (pt_K a b = 9 ∧ pt_KI a b = -1) ∨ (pt_K a b ≤ 1 ∧ pt_KI a b = nI (pt_K a b)) := by decide +kernel
theorem pt_nIm1 {n : Nat} (h : n < 2 ^ 31) : ¬ nI n = -1 := by
  intro e
  have := nI_pos (n := n) h
  rw [e] at this
  exact this (by decide)
theorem pt_d16 {p : Nat} (hp : p < 64) : nI p / 16 = nI (p / 16) := pk_div (d := 16) (by omega) (by decide) (by decide)
theorem pt_d4 {p : Nat} (hp : p < 64) : nI p / 4 = nI (p / 4) := pk_div (d := 4) (by omega) (by decide) (by decide)
theorem pt_m16 {p : Nat} (hp : p < 64) : nI p - nI p / 16 * 16 = nI (p % 16) := pk_rem (d := 16) (by omega) (by decide) (by decide)
theorem pt_m4 {p : Nat} (hp : p < 64) : nI p - nI p / 4 * 4 = nI (p % 4) := pk_rem (d := 4) (by omega) (by decide) (by decide)
theorem pt_n16 : ¬ (16 : Int32) = 0 := by decide
theorem pt_n4 : ¬ (4 : Int32) = 0 := by decide
section
variable {ms ca pe vi bc bs ec ep ed : Nat → Int32} {W : Nat} {f0 : Int32}
theorem px_lf {post : Int32 → Prop} {a b : Nat} (ha : a < 4) (hb : b < 4) (h : post (pt_KI a b)) : wpX_leastFeedbacks post (nI a) (nI b) := by
  unfold pt_KI at h
  refine pk_eq a b (fun z => ?_) (fun z => pk_eq a 3 (fun y => ?_) (fun y => pk_eq b 0 (fun x => ?_) (fun x => pk_eq a 2 (fun v => pk_eq b 1 (fun t => ?_) (fun t => ?_)) (fun v => ?_))))
  · rw [if_pos z] at h; exact h
  · rw [if_neg z, if_pos y] at h; exact h
  · rw [if_neg z, if_neg y, if_pos x] at h; exact h
  · rw [if_neg z, if_neg y, if_neg x, if_pos v, if_pos t] at h; exact h
  · rw [if_neg z, if_neg y, if_neg x, if_pos v, if_neg t] at h; exact h
  · rw [if_neg z, if_neg y, if_neg x, if_neg v] at h; exact h
theorem px_cr {post : Int32 → Prop} {p o e r : Nat} (hp : p < 64) (ho : o < 4) (he : e < 4) (hr : r < 4) (h1 : pt_cr p o e r → post 1) (h0 : ¬ pt_cr p o e r → post 0) : wpX_couldResultIn post (nI p) (nI o) (nI e) (nI r) := by
  unfold wpX_couldResultIn
  rw [pt_m16 hp, pt_m4 hp, pt_d16 hp, show nI (p % 16) / 4 = nI (p % 16 / 4) from pt_d4 (by omega)]
  refine ⟨pt_n16, px_lf (by omega) ho ⟨pt_n16, pt_n4, nm_e ⟨pt_n4, nm_e ?_⟩⟩⟩
  rcases pt_KI_K (p / 16) (by omega) o ho with ⟨k1, k2⟩ | ⟨k1, k2⟩
  · exact br_t k2 (h0 (fun t => by have := t.2; omega))
  · rw [k2, nI_add]
    refine br_f (pt_nIm1 (by omega)) (pk_lt e (p % 16 / 4) (fun z => h0 (fun t => by have := t.1; omega)) (fun z => pk_lt r (p % 4 + pt_K (p / 16) o) (fun y => h0 (fun t => by have := t.2; omega)) (fun y => h1 ⟨by omega, by omega⟩)))
theorem px_canReach {post : Int32 → Prop} {w o e r : Nat} (hW : W ≤ 4) (hw : w < W) (ho : o < 4) (he : e < 4) (hr : r < 4) (h1 : (∃ p, p < 64 ∧ ¬ vi (64 * w + p) ≤ 0 ∧ pt_cr p o e r) → post 1) (h0 : (∀ p, p < 64 → ¬ vi (64 * w + p) ≤ 0 → ¬ pt_cr p o e r) → post 0) :
    wpX_canReach post (nI W, ms, ca, pe, vi, bc, bs, ec, ep, ed) (nI w) (nI o) (nI e) (nI r) := by
  unfold wpX_canReach
  refine px_isW hW hw (br_f pt_10 (px_areR ho he hr (br_f pt_10 ?_)))
  refine loop_0 (σ := Unit) (fun k i _ => wX_canReach_23 post (nI w) (nI o) (nI e) (nI r) (nI W) ms ca pe vi bc bs ec ep ed k (nI i)) (fun i _ => ∀ p, p < i → ¬ vi (64 * w + p) ≤ 0 → ¬ pt_cr p o e r) 64 () (fun p hp => absurd hp (by omega)) ?_ ?_
  · intro k _ hs
    exact pk_le 64 64 (fun _ => h0 hs) (fun z => absurd z (by omega))
  · intro k i _ hi hs hn
    refine pk_le 64 i (fun z => absurd z (by omega)) (fun _ => ⟨pk_in (64 * w + i) 256 (by omega) (pt_w64 w i), ?_⟩)
    rw [pt_w64, nI_clamp (by omega)]
    have step : (¬ vi (64 * w + i) ≤ 0 → ¬ pt_cr i o e r) → ∀ p, p < i + 1 → ¬ vi (64 * w + p) ≤ 0 → ¬ pt_cr p o e r := by
      intro hx p hp
      by_cases e : p = i
      · rw [e]; exact hx
      · exact hs p (by omega)
    refine br_c (fun z => nm_r (nI_1 i) (hn () (step (fun g => absurd z g)))) (fun z => px_cr hi ho he hr (fun g => br_f pt_10 (h1 ⟨i, hi, z, g⟩)) (fun g => br_t rfl (nm_r (nI_1 i) (hn () (step (fun _ => g))))))
theorem px_occ {post : Int64 → Prop} {p k : Nat} (hW : W ≤ 4) (hp : p < 64) (hk : k < 2 ^ 20) (hm : ∀ i, ∃ a, a ≤ k ∧ ms i = nI a) (hc : ∀ i, ∃ a, a ≤ k ∧ ca i = nI a) (h : post (lN (pt_occ ms ca p W))) :
    wpX_occurrences post (nI W, ms, ca, pe, vi, bc, bs, ec, ep, ed) (nI p) := by
  unfold wpX_occurrences
  obtain ⟨a, ha, ea⟩ := hm p
  refine ⟨vp_in_nI hp (by omega), ?_⟩
  rw [nI_clamp (show p < 2 ^ 31 by omega)]
  refine nm_r (show (ms p).toInt64 = lN (pt_occ ms ca p 0) from ?_) ?_
  · show _ = lN ((ms p).toNatClampNeg)
    rw [ea, nI_l (by omega), nI_clamp (by omega)]
  · refine loop_0 (fun k i s => wX_occurrences_11 post (nI p) (nI W) ms ca pe vi bc bs ec ep ed k s (nI i)) (fun i s => s = lN (pt_occ ms ca p i)) W _ rfl ?_ ?_
    · rintro k s rfl
      exact pk_le W W (fun _ => h) (fun z => absurd z (by omega))
    · rintro k i s hi rfl hn
      obtain ⟨b, hb, eb⟩ := hc (64 * i + p)
      refine pk_le W i (fun z => absurd z (by omega)) (fun _ => ⟨pk_in (64 * i + p) 256 (by omega) (pt_w64 i p), ?_⟩)
      rw [pt_w64, nI_clamp (show 64 * i + p < 2 ^ 31 by omega)]
      refine nm_e (nm_r (nI_1 i) (hn _ ?_))
      show _ = lN (pt_occ ms ca p i + (ca (64 * i + p)).toNatClampNeg)
      rw [eb, nI_l (by omega), nI_clamp (by omega), lN_add]
theorem px_couldArrive {post : Int32 → Prop} {o e r k : Nat} (hW : W ≤ 4) (ho : o < 4) (he : e < 4) (hr : r < 4) (hk : k < 2 ^ 20) (hm : ∀ i, ∃ a, a ≤ k ∧ ms i = nI a) (hc : ∀ i, ∃ a, a ≤ k ∧ ca i = nI a)
    (h1 : (∃ p, p < 64 ∧ 0 < pt_occ ms ca p W ∧ pt_cr p o e r) → post 1) (h0 : (∀ p, p < 64 → 0 < pt_occ ms ca p W → ¬ pt_cr p o e r) → post 0) :
    wpX_couldArrive post (nI W, ms, ca, pe, vi, bc, bs, ec, ep, ed) (nI o) (nI e) (nI r) := by
  unfold wpX_couldArrive
  refine px_areR ho he hr (br_f pt_10 ?_)
  refine loop_0 (σ := Unit) (fun k i _ => wX_couldArrive_14 post (nI o) (nI e) (nI r) (nI W) ms ca pe vi bc bs ec ep ed k (nI i)) (fun i _ => ∀ p, p < i → 0 < pt_occ ms ca p W → ¬ pt_cr p o e r) 64 () (fun p hp => absurd hp (by omega)) ?_ ?_
  · intro k _ hs
    exact pk_le 64 64 (fun _ => h0 hs) (fun z => absurd z (by omega))
  · intro k' i _ hi hs hn
    have step : (0 < pt_occ ms ca i W → ¬ pt_cr i o e r) → ∀ p, p < i + 1 → 0 < pt_occ ms ca p W → ¬ pt_cr p o e r := by
      intro hx p hp
      by_cases e : p = i
      · rw [e]; exact hx
      · exact hs p (by omega)
    have hle := pt_occ_le (p := i) hk hm hc W
    have hle2 : k * (W + 1) ≤ k * 5 := Nat.mul_le_mul_left k (by omega)
    refine pk_le 64 i (fun z => absurd z (by omega)) (fun _ => px_occ hW hi hk hm hc ?_)
    have hz : lN (pt_occ ms ca i W) ≤ 0 ↔ pt_occ ms ca i W ≤ 0 := lN_le (b := 0) (by omega) (by decide)
    refine br_c (fun z => nm_r (nI_1 i) (hn () (step (fun g => absurd (hz.mp z) (by omega))))) (fun z => ?_)
    have hz' : 0 < pt_occ ms ca i W := by
      rcases Nat.eq_zero_or_pos (pt_occ ms ca i W) with q | q
      · exact absurd (hz.mpr (by omega)) z
      · exact q
    exact px_cr hi ho he hr (fun g => br_f pt_10 (h1 ⟨i, hi, hz', g⟩)) (fun g => br_t rfl (nm_r (nI_1 i) (hn () (step (fun _ => g)))))
/-- the least round so far, at operator a and round q of the scan -/
def pt_inv (f : Nat → Int32) (w o e a q m : Nat) : Prop := m ≤ 5 ∧ (m < 5 → pt_M f w o e m) ∧ ∀ a' q', a' < 4 → q' < 4 → (a' < a ∨ (a' = a ∧ q' < q)) → 0 < f (64 * w + (16 * a' + 4 * e + q')) → m ≤ q' + pt_K a' o
theorem pt_inv_keep {f : Nat → Int32} {w o e a q m : Nat} (h : pt_inv f w o e a q m) (hx : 0 < f (64 * w + (16 * a + 4 * e + q)) → m ≤ q + pt_K a o) : pt_inv f w o e a (q + 1) m := by
  obtain ⟨h1, h2, h3⟩ := h
  refine ⟨h1, h2, fun a' q' ha hq hc hv => ?_⟩
  by_cases z : a' = a ∧ q' = q
  · rw [z.1, z.2] at hv ⊢
    exact hx hv
  · exact h3 a' q' ha hq (by omega) hv
theorem pt_inv_next {f : Nat → Int32} {w o e a m : Nat} (h : pt_inv f w o e a 4 m) : pt_inv f w o e (a + 1) 0 m := by
  obtain ⟨h1, h2, h3⟩ := h
  exact ⟨h1, h2, fun a' q' ha hq hc hv => h3 a' q' ha hq (by omega) hv⟩
theorem pt_inv_end {f : Nat → Int32} {w o e m : Nat} (h : pt_inv f w o e 4 0 m) : m = pt_L f w o e := by
  obtain ⟨h1, h2, h3⟩ := h
  refine pt_lst_un ⟨h1, h2, fun r hr hM => ?_⟩ (pt_L_s f w o e)
  obtain ⟨a, q, ha, hq, e1, hv⟩ := hM
  have := h3 a q ha hq (by omega) hv
  omega
theorem px_lrIn {post : Int32 → Prop} {J6 : Int32 → Int32 → Prop} {w o e a m : Nat} (hw : w < 4) (ho : o < 4) (he : e < 4) (ha : a < 4) (hJ : ∀ m, pt_inv vi w o e (a + 1) 0 m → J6 (nI m) (nI (a + 1))) (hm : pt_inv vi w o e a 0 m) :
    ∃ k, wX_leastRound_23 post J6 (nI w) (nI o) (nI e) (nI a) (pt_KI a o) f0 ms ca pe vi bc bs ec ep ed k (nI m) 0 := by
  refine loop_0 (fun k i s => wX_leastRound_23 post J6 (nI w) (nI o) (nI e) (nI a) (pt_KI a o) f0 ms ca pe vi bc bs ec ep ed k s (nI i)) (fun i s => ∃ m, s = nI m ∧ pt_inv vi w o e a i m) 4 (nI m) ⟨m, rfl, hm⟩ ?_ ?_
  · rintro k s ⟨m, rfl, hi⟩
    exact pk_lt 3 4 (fun _ => nm_r (nI_1 a) (hJ m (pt_inv_next hi))) (fun z => absurd z (by omega))
  · rintro k i s hi ⟨m, rfl, hv⟩ hn
    have hm5 := hv.1
    have skip : (0 < vi (64 * w + (16 * a + 4 * e + i)) → m ≤ i + pt_K a o) → ∀ y, y = nI i + 1 → wX_leastRound_23 post J6 (nI w) (nI o) (nI e) (nI a) (pt_KI a o) f0 ms ca pe vi bc bs ec ep ed k (nI m) y :=
      fun hx => nm_r (nI_1 i) (hn _ ⟨m, rfl, pt_inv_keep hv hx⟩)
    refine pk_lt 3 i (fun z => absurd z (by omega)) (fun _ => ?_)
    unfold wX_leastRound_56 wX_leastRound_57
    rcases pt_KI_K a ha o ho with ⟨k1, k2⟩ | ⟨k1, k2⟩
    · exact br_t k2 (br_t rfl (skip (fun _ => by omega)))
    · refine br_f (by rw [k2]; exact pt_nIm1 (by omega)) (px_place ⟨vp_in_nI (by omega) (by omega), ?_⟩)
      rw [nI_clamp (show 64 * w + (16 * a + 4 * e + i) < 2 ^ 31 by omega)]
      refine br_c (fun z => br_t rfl (skip (fun g => absurd z (Int32.not_le.mpr g)))) (fun z => br_f pt_10 ?_)
      have ek : nI i + pt_KI a o = nI (i + pt_K a o) := by rw [k2, nI_add]
      refine pk_le m (i + pt_K a o) (fun y => skip (fun _ => y)) (fun y => ?_) rfl ek
      refine nm_r ek (nm_r (nI_1 i) (hn _ ⟨i + pt_K a o, rfl, ?_⟩))
      obtain ⟨g1, g2, g3⟩ := hv
      refine ⟨by omega, fun _ => ⟨a, i, ha, hi, rfl, Int32.not_le.mp z⟩, fun a' q' ha' hq' hc hv' => ?_⟩
      by_cases x : a' = a ∧ q' = i
      · rw [x.1, x.2]; omega
      · have := g3 a' q' ha' hq' (by omega) hv'
        omega
theorem px_lr {post : Int32 → Prop} {w o e : Nat} (hw : w < 4) (ho : o < 4) (he : e < 4) (h : post (nI (pt_L vi w o e))) : wpX_leastRound post (f0, ms, ca, pe, vi, bc, bs, ec, ep, ed) (nI w) (nI o) (nI e) := by
  refine loop_0 (fun k i s => wX_leastRound_6 post (nI w) (nI o) (nI e) f0 ms ca pe vi bc bs ec ep ed k s (nI i)) (fun i s => ∃ m, s = nI m ∧ pt_inv vi w o e i 0 m) 4 5 ⟨5, rfl, by omega, fun z => absurd z (by omega), fun a' q' _ _ hc => absurd hc (by omega)⟩ ?_ ?_
  · rintro k s ⟨m, rfl, hi⟩
    refine pk_lt 3 4 (fun _ => ?_) (fun z => absurd z (by omega))
    rw [pt_inv_end hi]
    exact h
  · rintro k i s hi ⟨m, rfl, hv⟩ hn
    exact pk_lt 3 i (fun z => absurd z (by omega)) (fun _ => px_lf hi ho (px_lrIn hw ho he hi (fun m' hm' => hn _ ⟨m', rfl, hm'⟩) hv))
theorem px_fsize {post : Int32 → Prop} {w o : Nat} (hW : W ≤ 4) (hw : w < W) (ho : o < 4) (h : post (nI (pt_sz (pt_L vi w o) 4))) : wpX_frontierSize post (nI W, ms, ca, pe, vi, bc, bs, ec, ep, ed) (nI w) (nI o) := by
  unfold wpX_frontierSize
  refine px_isW hW hw (br_f pt_10 (px_inR ho (br_f pt_10 ?_)))
  refine loop_0 (fun k i (s : Int32 × Int32) => wX_frontierSize_25 post (nI w) (nI o) (nI W) ms ca pe vi bc bs ec ep ed k s.1 s.2 (nI i)) (fun i s => s = (nI (pt_sz (pt_L vi w o) i), nI (pt_low (pt_L vi w o) i))) 4 (0, 5) rfl ?_ ?_
  · rintro k s rfl
    exact pk_lt 3 4 (fun _ => h) (fun z => absurd z (by omega))
  · rintro k i s hi rfl hn
    have hl := pt_low_le (pt_L vi w o) i
    have hL := (pt_L_s vi w o i).1
    refine pk_lt 3 i (fun z => absurd z (by omega)) (fun _ => px_lr (by omega) ho hi ?_)
    refine pk_le (pt_low (pt_L vi w o) i) (pt_L vi w o i) (fun z => nm_r (nI_1 i) (hn (_, _) ?_)) (fun z => nm_r (nI_1 _) (nm_r (nI_1 i) (hn (_, _) ?_)))
    · rw [pt_sz_f (by omega), pt_low_f (by omega)]
    · rw [pt_sz_t z, pt_low_t z]
      rfl
/-- element ix of the frontier, from epoch e on -/
def pt_el (L : Nat → Nat) (ix : Int32) : Nat → Nat → Int32
  | 0, _ => -1
  | d + 1, e => if L e < pt_low L e then (if nI (pt_sz L e) = ix then nI (16 * e + L e) else pt_el L ix d (e + 1)) else pt_el L ix d (e + 1)
theorem pt_el_n {L : Nat → Nat} {ix : Int32} {d e : Nat} (h : ¬ L e < pt_low L e) : pt_el L ix (d + 1) e = pt_el L ix d (e + 1) := if_neg h
theorem pt_el_t {L : Nat → Nat} {ix : Int32} {d e : Nat} (h : L e < pt_low L e) (g : nI (pt_sz L e) = ix) : pt_el L ix (d + 1) e = nI (16 * e + L e) := by
  show (if L e < pt_low L e then (if nI (pt_sz L e) = ix then nI (16 * e + L e) else pt_el L ix d (e + 1)) else pt_el L ix d (e + 1)) = _
  rw [if_pos h, if_pos g]
theorem pt_el_f {L : Nat → Nat} {ix : Int32} {d e : Nat} (h : L e < pt_low L e) (g : ¬ nI (pt_sz L e) = ix) : pt_el L ix (d + 1) e = pt_el L ix d (e + 1) := by
  show (if L e < pt_low L e then (if nI (pt_sz L e) = ix then nI (16 * e + L e) else pt_el L ix d (e + 1)) else pt_el L ix d (e + 1)) = _
  rw [if_pos h, if_neg g]
theorem pt_e16 (e l : Nat) : nI e * 16 + nI l = nI (16 * e + l) := by
  rw [show (16 : Int32) = nI 16 from rfl, pk_mul, nI_add, Nat.mul_comm]
theorem px_felem {post : Int32 → Prop} {w o : Nat} {ix : Int32} (hW : W ≤ 4) (hw : w < W) (ho : o < 4) (h : post (pt_el (pt_L vi w o) ix 4 0)) : wpX_frontierElement post (nI W, ms, ca, pe, vi, bc, bs, ec, ep, ed) (nI w) (nI o) ix := by
  unfold wpX_frontierElement
  refine px_isW hW hw (br_f pt_10 (px_inR ho (br_f pt_10 ?_)))
  refine loop_0 (fun k i (s : Int32 × Int32) => wX_frontierElement_26 post (nI w) (nI o) ix (nI W) ms ca pe vi bc bs ec ep ed k s.1 s.2 (nI i)) (fun i s => s = (nI (pt_sz (pt_L vi w o) i), nI (pt_low (pt_L vi w o) i)) ∧ ∃ d, i + d = 4 ∧ post (pt_el (pt_L vi w o) ix d i)) 4 (0, 5) ⟨rfl, 4, rfl, h⟩ ?_ ?_
  · rintro k s ⟨rfl, d, hd, hp⟩
    obtain rfl : d = 0 := by omega
    exact pk_lt 3 4 (fun _ => hp) (fun z => absurd z (by omega))
  · rintro k i s hi ⟨rfl, d, hd, hp⟩ hn
    have hl := pt_low_le (pt_L vi w o) i
    have hL := (pt_L_s vi w o i).1
    obtain ⟨d, rfl⟩ : ∃ d', d = d' + 1 := ⟨d - 1, by omega⟩
    refine pk_lt 3 i (fun z => absurd z (by omega)) (fun _ => px_lr (by omega) ho hi ?_)
    refine pk_le (pt_low (pt_L vi w o) i) (pt_L vi w o i) (fun z => nm_r (nI_1 i) (hn (_, _) ⟨?_, d, by omega, ?_⟩)) (fun z => ?_)
    · rw [pt_sz_f (by omega), pt_low_f (by omega)]
    · rw [pt_el_n (by omega)] at hp; exact hp
    · by_cases g : nI (pt_sz (pt_L vi w o) i) = ix
      · rw [pt_el_t z g] at hp
        refine br_t g ?_
        rw [pt_e16]
        exact hp
      · rw [pt_el_f z g] at hp
        refine br_f g (nm_r (nI_1 _) (nm_r (nI_1 i) (hn (_, _) ⟨?_, d, by omega, hp⟩)))
        rw [pt_sz_t z, pt_low_t z]
        rfl
theorem px_viewC {post : Int32 → Prop} {w a e r : Nat} (hW : W ≤ 4) (hw : w < W) (ha : a < 4) (he : e < 4) (hr : r < 4) (h : post (vi (64 * w + (16 * a + 4 * e + r)))) : wpX_viewCount post (nI W, ms, ca, pe, vi, bc, bs, ec, ep, ed) (nI w) (nI a) (nI e) (nI r) := by
  unfold wpX_viewCount
  refine px_isW hW hw (br_f pt_10 (px_areR ha he hr (br_f pt_10 (px_place ⟨vp_in_nI (by omega) (by omega), ?_⟩))))
  rw [nI_clamp (by omega)]
  exact h
theorem px_pendC {post : Int32 → Prop} {w a e r : Nat} (hW : W ≤ 4) (hw : w < W) (ha : a < 4) (he : e < 4) (hr : r < 4) (h : post (pe (64 * w + (16 * a + 4 * e + r)))) : wpX_pendingCount post (nI W, ms, ca, pe, vi, bc, bs, ec, ep, ed) (nI w) (nI a) (nI e) (nI r) := by
  unfold wpX_pendingCount
  refine px_isW hW hw (br_f pt_10 (px_areR ha he hr (br_f pt_10 (px_place ⟨vp_in_nI (by omega) (by omega), ?_⟩))))
  rw [nI_clamp (by omega)]
  exact h
theorem px_capC {post : Int32 → Prop} {w a e r : Nat} (hW : W ≤ 4) (hw : w < W) (ha : a < 4) (he : e < 4) (hr : r < 4) (h : post (ca (64 * w + (16 * a + 4 * e + r)))) : wpX_capabilities post (nI W, ms, ca, pe, vi, bc, bs, ec, ep, ed) (nI w) (nI a) (nI e) (nI r) := by
  unfold wpX_capabilities
  refine px_isW hW hw (br_f pt_10 (px_areR ha he hr (br_f pt_10 (px_place ⟨vp_in_nI (by omega) (by omega), ?_⟩))))
  rw [nI_clamp (by omega)]
  exact h
theorem px_msgC {post : Int32 → Prop} {a e r : Nat} (ha : a < 4) (he : e < 4) (hr : r < 4) (h : post (ms (16 * a + 4 * e + r))) : wpX_messages post (f0, ms, ca, pe, vi, bc, bs, ec, ep, ed) (nI a) (nI e) (nI r) := by
  unfold wpX_messages
  refine px_areR ha he hr (br_f pt_10 (px_point ⟨vp_in_nI (by omega) (by omega), ?_⟩))
  rw [nI_clamp (by omega)]
  exact h
theorem px_queued {post : Int32 → Prop} {s r : Nat} (hW : W ≤ 4) (hs : s < W) (hr : r < W) (h : post (bc (4 * s + r))) : wpX_queuedBatches post (nI W, ms, ca, pe, vi, bc, bs, ec, ep, ed) (nI s) (nI r) := by
  unfold wpX_queuedBatches
  refine px_isW hW hs (br_f pt_10 (px_isW hW hr (br_f pt_10 (px_chan ⟨vp_in_nI (by omega) (by omega), ?_⟩))))
  rw [nI_clamp (by omega)]
  exact h
theorem px_quiet {post : Int32 → Prop} (hW : W ≤ 4) (h1 : (∀ w, w < W → pt_cnt pe (64 * w) 64 = 0) → (∀ c, c < 16 → bc c = 0) → post 1) (h0 : ((∃ w, w < W ∧ pt_cnt pe (64 * w) 64 ≠ 0) ∨ ∃ c, c < 16 ∧ ¬ bc c = 0) → post 0) :
    wpX_isQuiet post (nI W, ms, ca, pe, vi, bc, bs, ec, ep, ed) := by
  refine loop_0 (σ := Unit) (fun k i _ => wX_isQuiet_2 post (nI W) ms ca pe vi bc bs ec ep ed k (nI i)) (fun i _ => ∀ w, w < i → pt_cnt pe (64 * w) 64 = 0) W () (fun w h => absurd h (by omega)) ?_ ?_
  · intro k _ hs
    refine pk_le W W (fun _ => ?_) (fun z => absurd z (by omega))
    refine loop_0 (σ := Unit) (fun k i _ => wX_isQuiet_28 post (nI W) ms ca pe vi bc bs ec ep ed k (nI i)) (fun i _ => ∀ c, c < i → bc c = 0) 16 () (fun w h => absurd h (by omega)) ?_ ?_
    · intro k _ hs'
      exact pk_le 16 16 (fun _ => h1 hs hs') (fun z => absurd z (by omega))
    · intro k i _ hi hs' hn
      refine pk_le 16 i (fun z => absurd z (by omega)) (fun _ => ⟨vp_in_nI hi (by omega), ?_⟩)
      rw [nI_clamp (by omega)]
      refine br_c (fun z => nm_r (nI_1 i) (hn () (fun c hc => ?_))) (fun z => h0 (Or.inr ⟨i, hi, z⟩))
      by_cases e : c = i
      · rw [e]; exact z
      · exact hs' c (by omega)
  · intro k i _ hi hs hn
    have hle := pt_cnt_le pe (64 * i) 64
    refine pk_le W i (fun z => absurd z (by omega)) (fun _ => px_pend (by omega) ?_)
    refine pk_eq (pt_cnt pe (64 * i) 64) 0 (fun z => nm_r (nI_1 i) (hn () (fun w hw => ?_))) (fun z => h0 (Or.inl ⟨i, hi, z⟩))
    by_cases e : w = i
    · rw [e]; exact z
    · exact hs w (by omega)
end
end
section
/-! Y: the small methods, and the calls that change one worker's counts -/
section
variable {ms ca pe vi ps dl st ln : Nat → Int32} {W : Nat} {f0 : Int32}
theorem py_ok1 {post : Int32 → Prop} {a : Nat} (ha : a < 4) (h : post 1) : wpY_ok post (f0, ms, ca, pe, vi, ps, dl, st, ln) (nI a) :=
  br_f (nI_pos (by omega)) (br_f (nI_nlt (a := 3) (b := a) (by omega) (by decide)) h)
theorem py_okn {post : Int32 → Prop} {x : Int32} (hx : ¬ pt_ok x) (h : post 0) : wpY_ok post (f0, ms, ca, pe, vi, ps, dl, st, ln) x := by
  rcases pk_ix x (n := 4) (by decide) with z | z | z
  · exact br_t z h
  · exact br_c (fun _ => h) (fun _ => br_t (pt_3lt z) h)
  · exact absurd z hx
theorem py_okc {post : Int32 → Prop} {x : Int32} (h1 : pt_ok x → post 1) (h0 : ¬ pt_ok x → post 0) : wpY_ok post (f0, ms, ca, pe, vi, ps, dl, st, ln) x := by
  by_cases h : pt_ok x
  · obtain ⟨a, ha, rfl⟩ := h
    exact py_ok1 ha (h1 ⟨a, ha, rfl⟩)
  · exact py_okn h (h0 h)
theorem py_okWc {post : Int32 → Prop} {x : Int32} (hW : W ≤ 4) (h1 : pt_okW W x → post 1) (h0 : ¬ pt_okW W x → post 0) : wpY_okW post (nI W, ms, ca, pe, vi, ps, dl, st, ln) x := by
  rcases pk_ix x (n := W) (by omega) with z | z | z
  · exact br_t z (h0 (fun t => by obtain ⟨j, hj, rfl⟩ := t; exact nI_pos (by omega) z))
  · exact br_c (fun y => h0 (fun t => by obtain ⟨j, hj, rfl⟩ := t; exact nI_pos (by omega) y)) (fun _ => br_t z (h0 (fun t => by obtain ⟨j, hj, rfl⟩ := t; exact nI_ge hj (by omega) z)))
  · obtain ⟨j, hj, rfl⟩ := z
    exact br_f (nI_pos (by omega)) (br_f (nI_ge hj (by omega)) (h1 ⟨j, hj, rfl⟩))
theorem py_g4 {bad body : Prop} {x a b c : Int32} (hW : W ≤ 4) (h0 : ¬ (pt_okW W x ∧ pt_ok a ∧ pt_ok b ∧ pt_ok c) → bad) (h1 : pt_okW W x → pt_ok a → pt_ok b → pt_ok c → body) :
    wpY_okW (fun r => (r = 0 → bad) ∧ (¬ r = 0 → wpY_ok (fun r1 => (r1 = 0 → bad) ∧ (¬ r1 = 0 → wpY_ok (fun r2 => (r2 = 0 → bad) ∧ (¬ r2 = 0 → wpY_ok (fun r3 => (r3 = 0 → bad) ∧ (¬ r3 = 0 → body)) (nI W, ms, ca, pe, vi, ps, dl, st, ln) c)) (nI W, ms, ca, pe, vi, ps, dl, st, ln) b)) (nI W, ms, ca, pe, vi, ps, dl, st, ln) a)) (nI W, ms, ca, pe, vi, ps, dl, st, ln) x :=
  py_okWc hW (fun k0 => br_f pt_10 (py_okc (fun k1 => br_f pt_10 (py_okc (fun k2 => br_f pt_10 (py_okc (fun k3 => br_f pt_10 (h1 k0 k1 k2 k3)) (fun n => br_t rfl (h0 (fun t => n t.2.2.2))))) (fun n => br_t rfl (h0 (fun t => n t.2.2.1))))) (fun n => br_t rfl (h0 (fun t => n t.2.1))))) (fun n => br_t rfl (h0 (fun t => n t.1)))
theorem py_g3 {bad body : Prop} {a b c : Int32} (h0 : ¬ (pt_ok a ∧ pt_ok b ∧ pt_ok c) → bad) (h1 : pt_ok a → pt_ok b → pt_ok c → body) :
    wpY_ok (fun r1 => (r1 = 0 → bad) ∧ (¬ r1 = 0 → wpY_ok (fun r2 => (r2 = 0 → bad) ∧ (¬ r2 = 0 → wpY_ok (fun r3 => (r3 = 0 → bad) ∧ (¬ r3 = 0 → body)) (f0, ms, ca, pe, vi, ps, dl, st, ln) c)) (f0, ms, ca, pe, vi, ps, dl, st, ln) b)) (f0, ms, ca, pe, vi, ps, dl, st, ln) a :=
  py_okc (fun k1 => br_f pt_10 (py_okc (fun k2 => br_f pt_10 (py_okc (fun k3 => br_f pt_10 (h1 k1 k2 k3)) (fun n => br_t rfl (h0 (fun t => n t.2.2))))) (fun n => br_t rfl (h0 (fun t => n t.2.1))))) (fun n => br_t rfl (h0 (fun t => n t.1)))
theorem py_g2 {bad body : Prop} {x a : Int32} (hW : W ≤ 4) (h0 : ¬ (pt_okW W x ∧ pt_ok a) → bad) (h1 : pt_okW W x → pt_ok a → body) :
    wpY_okW (fun r => (r = 0 → bad) ∧ (¬ r = 0 → wpY_ok (fun r1 => (r1 = 0 → bad) ∧ (¬ r1 = 0 → body)) (nI W, ms, ca, pe, vi, ps, dl, st, ln) a)) (nI W, ms, ca, pe, vi, ps, dl, st, ln) x :=
  py_okWc hW (fun k0 => br_f pt_10 (py_okc (fun k1 => br_f pt_10 (h1 k0 k1)) (fun n => br_t rfl (h0 (fun t => n t.2))))) (fun n => br_t rfl (h0 (fun t => n t.1)))
theorem py_gWW {bad body : Prop} {x a : Int32} (hW : W ≤ 4) (h0 : ¬ (pt_okW W x ∧ pt_okW W a) → bad) (h1 : pt_okW W x → pt_okW W a → body) :
    wpY_okW (fun r => (r = 0 → bad) ∧ (¬ r = 0 → wpY_okW (fun r1 => (r1 = 0 → bad) ∧ (¬ r1 = 0 → body)) (nI W, ms, ca, pe, vi, ps, dl, st, ln) a)) (nI W, ms, ca, pe, vi, ps, dl, st, ln) x :=
  py_okWc hW (fun k0 => br_f pt_10 (py_okWc hW (fun k1 => br_f pt_10 (h1 k0 k1)) (fun n => br_t rfl (h0 (fun t => n t.2))))) (fun n => br_t rfl (h0 (fun t => n t.1)))
theorem py_idx {post : Int32 → Prop} {a b c : Nat} (h : post (nI (16 * a + 4 * b + c))) : wpY_idx post (f0, ms, ca, pe, vi, ps, dl, st, ln) (nI a) (nI b) (nI c) := by
  show post (nI a * 16 + nI b * 4 + nI c)
  rw [pt_ixE]
  exact h
theorem py_after {post : Int32 → Prop} {w : Nat} {q1 d1 q2 d2 : Int32} {g : Nat → Int32} (hw : w < 4)
    (hg : ∀ p, p < 64 → g (64 * w + p) = (if nI p = q2 then (if nI p = q1 then pe (64 * w + p) + d1 else pe (64 * w + p)) + d2 else (if nI p = q1 then pe (64 * w + p) + d1 else pe (64 * w + p))))
    (h : post (nI (pt_cnt g (64 * w) 64))) : wpY_entriesAfter post (f0, ms, ca, pe, vi, ps, dl, st, ln) (nI w) q1 d1 q2 d2 := by
  refine loop_0 (fun k i s => wY_entriesAfter_6 post (nI w) q1 d1 q2 d2 f0 ms ca pe vi ps dl st ln k s (nI i)) (fun i s => s = nI (pt_cnt g (64 * w) i)) 64 0 rfl ?_ ?_
  · rintro k s rfl
    exact pk_le 64 64 (fun _ => h) (fun z => absurd z (by omega))
  · rintro k i s hi rfl hn
    have hgi := hg i hi
    have fin : ∀ x, x = g (64 * w + i) → wY_entriesAfter_53 post (wY_entriesAfter_6 post (nI w) q1 d1 q2 d2 f0 ms ca pe vi ps dl st ln k) (nI w) q1 d1 q2 d2 (nI (pt_cnt g (64 * w) i)) (nI i) x f0 ms ca pe vi ps dl st ln := by
      rintro x rfl
      unfold wY_entriesAfter_53
      by_cases z : g (64 * w + i) = 0
      · refine br_t z (nm_r (nI_1 i) (hn _ ?_))
        rw [pt_cnt_s, pt_nz_0 z]
        rfl
      · refine br_f z (nm_e (nm_r (nI_1 i) (hn _ ?_)))
        rw [pt_cnt_s, pt_nz_1 z, nI_1]
    have mid : ∀ x, x = (if nI i = q1 then pe (64 * w + i) + d1 else pe (64 * w + i)) → wY_entriesAfter_39 post (wY_entriesAfter_6 post (nI w) q1 d1 q2 d2 f0 ms ca pe vi ps dl st ln k) (nI w) q1 d1 q2 d2 (nI (pt_cnt g (64 * w) i)) (nI i) x f0 ms ca pe vi ps dl st ln := by
      intro x hx
      unfold wY_entriesAfter_39
      by_cases y : nI i = q2
      · rw [if_pos y, ← hx] at hgi
        exact br_t y (nm_e (fin _ hgi.symm))
      · rw [if_neg y, ← hx] at hgi
        exact br_f y (fin _ hgi.symm)
    refine pk_le 64 i (fun z => absurd z (by omega)) (fun _ => ⟨pk_in (64 * w + i) 256 (by omega) (pt_w64 w i), ?_⟩)
    rw [pt_w64, nI_clamp (show 64 * w + i < 2 ^ 31 by omega)]
    refine nm_e ?_
    by_cases y : nI i = q1
    · exact br_t y (nm_e (mid _ (if_pos y).symm))
    · exact br_f y (mid _ (if_neg y).symm)
theorem py_after0 {post : Int32 → Prop} {w : Nat} (hw : w < 4) (h : post (nI (pt_cnt pe (64 * w) 64))) : wpY_entriesAfter post (f0, ms, ca, pe, vi, ps, dl, st, ln) (nI w) (-1) 0 (-1) 0 := by
  refine py_after (g := pe) hw (fun p hp => ?_) h
  rw [if_neg (pt_nIm1 (by omega)), if_neg (pt_nIm1 (by omega))]
theorem py_after1 {post : Int32 → Prop} {w q : Nat} {d : Int32} (hw : w < 4) (hq : q < 64) (h : post (nI (pt_aft pe w q (pe (64 * w + q) + d)))) : wpY_entriesAfter post (f0, ms, ca, pe, vi, ps, dl, st, ln) (nI w) (nI q) d (-1) 0 := by
  refine py_after (g := upd pe (64 * w + q) (pe (64 * w + q) + d)) hw (fun p hp => ?_) h
  rw [if_neg (pt_nIm1 (by omega))]
  by_cases e : p = q
  · rw [e, pk_us, if_pos rfl]
  · rw [pk_un (by omega), if_neg (fun t => e ((nI_eq (by omega) (by omega)).mp t))]
theorem py_after2 {post : Int32 → Prop} {w q1 q2 : Nat} {d1 d2 : Int32} (hw : w < 4) (h1 : q1 < 64) (h2 : q2 < 64) (hne : q1 ≠ q2) (h : post (nI (pt_aft2 pe w q1 q2 (pe (64 * w + q1) + d1) (pe (64 * w + q2) + d2)))) : wpY_entriesAfter post (f0, ms, ca, pe, vi, ps, dl, st, ln) (nI w) (nI q1) d1 (nI q2) d2 := by
  refine py_after (g := upd (upd pe (64 * w + q1) (pe (64 * w + q1) + d1)) (64 * w + q2) (pe (64 * w + q2) + d2)) hw (fun p hp => ?_) h
  by_cases e : p = q2
  · rw [e, pk_us, if_pos rfl, if_neg (fun t => hne ((nI_eq (by omega) (by omega)).mp t).symm)]
  · rw [pk_un (by omega), if_neg (fun t => e ((nI_eq (by omega) (by omega)).mp t))]
    by_cases e' : p = q1
    · rw [e', pk_us, if_pos rfl]
    · rw [pk_un (by omega), if_neg (fun t => e' ((nI_eq (by omega) (by omega)).mp t))]
theorem py_send98 {post : Int32 → SY → Prop} {w e r f t r2 : Nat} (hw : w < 4) (he : e < 4) (hr : r < 4) (hf : f < 4) (ht : t < 4) (hr2 : r2 < 5)
    (h2 : ca (64 * w + (16 * f + 4 * e + r)) = 0 → post (-2) (f0, ms, ca, pe, vi, ps, dl, st, ln))
    (h4 : ¬ ca (64 * w + (16 * f + 4 * e + r)) = 0 → 3 < r2 → post (-4) (f0, ms, ca, pe, vi, ps, dl, st, ln))
    (h6 : ¬ ca (64 * w + (16 * f + 4 * e + r)) = 0 → r2 ≤ 3 → 16 < pt_aft pe w (16 * t + 4 * e + r2) (pe (64 * w + (16 * t + 4 * e + r2)) + 1) → post (-6) (f0, ms, ca, pe, vi, ps, dl, st, ln))
    (h0 : ¬ ca (64 * w + (16 * f + 4 * e + r)) = 0 → r2 ≤ 3 → pt_aft pe w (16 * t + 4 * e + r2) (pe (64 * w + (16 * t + 4 * e + r2)) + 1) ≤ 16 →
      post 0 (f0, upd ms (16 * t + 4 * e + r2) (ms (16 * t + 4 * e + r2) + 1), ca, upd pe (64 * w + (16 * t + 4 * e + r2)) (pe (64 * w + (16 * t + 4 * e + r2)) + 1), vi, ps, dl, st, ln)) :
    wY_send_98 post (nI w) (nI e) (nI r) (nI f) (nI t) (nI r2) f0 ms ca pe vi ps dl st ln := by
  have hal := pt_aft_le pe w (16 * t + 4 * e + r2) (pe (64 * w + (16 * t + 4 * e + r2)) + 1)
  unfold wY_send_98
  refine py_idx ?_
  rw [pt_w64, nI_clamp (by omega)]
  refine ⟨vp_in_nI (by omega) (by omega), br_c h2 (fun hc => pk_le r2 3 (fun h3 => py_idx (py_after1 hw (by omega) ?_)) (fun h3 => h4 hc h3))⟩
  have hi1 : vp_in (nI (16 * t + 4 * e + r2)) 64 := vp_in_nI (by omega) (by omega)
  have hi2 : vp_in (nI (64 * w + (16 * t + 4 * e + r2))) 256 := vp_in_nI (by omega) (by omega)
  rw [pt_w64, nI_clamp (show 16 * t + 4 * e + r2 < 2 ^ 31 by omega), nI_clamp (show 64 * w + (16 * t + 4 * e + r2) < 2 ^ 31 by omega)]
  exact pk_le _ 16 (fun h => ⟨hi1, hi1, nm_e ⟨hi2, hi2, nm_e (h0 hc h3 h)⟩⟩) (fun h => h6 hc h3 h)
theorem py_send {post : Int32 → SY → Prop} {w d e r : Nat} (hW : W ≤ 4) (hw : w < W) (hd : d < 4) (he : e < 4) (hr : r < 4)
    (h2 : ca (64 * w + (16 * pt_fr d + 4 * e + r)) = 0 → post (-2) (nI W, ms, ca, pe, vi, ps, dl, st, ln))
    (h4 : ¬ ca (64 * w + (16 * pt_fr d + 4 * e + r)) = 0 → 3 < pt_r2 d r → post (-4) (nI W, ms, ca, pe, vi, ps, dl, st, ln))
    (h6 : ¬ ca (64 * w + (16 * pt_fr d + 4 * e + r)) = 0 → pt_r2 d r ≤ 3 → 16 < pt_aft pe w (16 * pt_to d + 4 * e + pt_r2 d r) (pe (64 * w + (16 * pt_to d + 4 * e + pt_r2 d r)) + 1) → post (-6) (nI W, ms, ca, pe, vi, ps, dl, st, ln))
    (h0 : ¬ ca (64 * w + (16 * pt_fr d + 4 * e + r)) = 0 → pt_r2 d r ≤ 3 → pt_aft pe w (16 * pt_to d + 4 * e + pt_r2 d r) (pe (64 * w + (16 * pt_to d + 4 * e + pt_r2 d r)) + 1) ≤ 16 →
      post 0 (nI W, upd ms (16 * pt_to d + 4 * e + pt_r2 d r) (ms (16 * pt_to d + 4 * e + pt_r2 d r) + 1), ca, upd pe (64 * w + (16 * pt_to d + 4 * e + pt_r2 d r)) (pe (64 * w + (16 * pt_to d + 4 * e + pt_r2 d r)) + 1), vi, ps, dl, st, ln)) :
    wpY_send post (nI W, ms, ca, pe, vi, ps, dl, st, ln) (nI w) (nI d) (nI e) (nI r) := by
  unfold wpY_send
  refine py_g4 hW (fun n => absurd ⟨⟨w, hw, rfl⟩, ⟨d, hd, rfl⟩, ⟨e, he, rfl⟩, ⟨r, hr, rfl⟩⟩ n) (fun _ _ _ _ => ?_)
  unfold wY_send_53 wY_send_82
  have c : d = 0 ∨ d = 1 ∨ d = 2 ∨ d = 3 := by omega
  rcases c with rfl | rfl | rfl | rfl
  · exact br_t rfl (br_t rfl (br_f (by decide) (py_send98 (f := 0) (t := 1) (r2 := r) (by omega) he hr (by omega) (by omega) (by omega) h2 h4 h6 h0)))
  · exact br_f (by decide) (br_t rfl (br_f (by decide) (br_t rfl (br_f (by decide) (py_send98 (f := 1) (t := 2) (r2 := r) (by omega) he hr (by omega) (by omega) (by omega) h2 h4 h6 h0)))))
  · refine br_f (by decide) (br_f (by decide) (br_f (by decide) (br_f (by decide) (br_t rfl (br_t rfl ?_)))))
    rw [nI_1]
    exact py_send98 (f := 2) (t := 1) (r2 := r + 1) (by omega) he hr (by omega) (by omega) (by omega) h2 h4 h6 h0
  · exact br_f (by decide) (br_f (by decide) (br_f (by decide) (br_f (by decide) (br_f (by decide) (br_f (by decide) (py_send98 (f := 2) (t := 3) (r2 := r) (by omega) he hr (by omega) (by omega) (by omega) h2 h4 h6 h0))))))
theorem py_receive {post : Int32 → SY → Prop} {w a e r : Nat} (hW : W ≤ 4) (hw : w < W) (ha : a < 4) (he : e < 4) (hr : r < 4)
    (h3 : ms (16 * a + 4 * e + r) = 0 → post (-3) (nI W, ms, ca, pe, vi, ps, dl, st, ln))
    (h0 : ¬ ms (16 * a + 4 * e + r) = 0 → post 0 (nI W, upd ms (16 * a + 4 * e + r) (ms (16 * a + 4 * e + r) - 1), upd ca (64 * w + (16 * a + 4 * e + r)) (ca (64 * w + (16 * a + 4 * e + r)) + 1), pe, vi, ps, dl, st, ln)) :
    wpY_receive post (nI W, ms, ca, pe, vi, ps, dl, st, ln) (nI w) (nI a) (nI e) (nI r) := by
  unfold wpY_receive
  refine py_g4 hW (fun n => absurd ⟨⟨w, hw, rfl⟩, ⟨a, ha, rfl⟩, ⟨e, he, rfl⟩, ⟨r, hr, rfl⟩⟩ n) (fun _ _ _ _ => py_idx ?_)
  have hi1 : vp_in (nI (16 * a + 4 * e + r)) 64 := vp_in_nI (by omega) (by omega)
  have hi2 : vp_in (nI (64 * w + (16 * a + 4 * e + r))) 256 := vp_in_nI (by omega) (by omega)
  rw [pt_w64, nI_clamp (show 16 * a + 4 * e + r < 2 ^ 31 by omega), nI_clamp (show 64 * w + (16 * a + 4 * e + r) < 2 ^ 31 by omega)]
  exact ⟨hi1, br_c h3 (fun hc => ⟨hi1, hi1, nm_e ⟨hi2, hi2, nm_e (h0 hc)⟩⟩)⟩
theorem py_drop {post : Int32 → SY → Prop} {w a e r : Nat} (hW : W ≤ 4) (hw : w < W) (ha : a < 4) (he : e < 4) (hr : r < 4)
    (h2 : ca (64 * w + (16 * a + 4 * e + r)) = 0 → post (-2) (nI W, ms, ca, pe, vi, ps, dl, st, ln))
    (h6 : ¬ ca (64 * w + (16 * a + 4 * e + r)) = 0 → 16 < pt_aft pe w (16 * a + 4 * e + r) (pe (64 * w + (16 * a + 4 * e + r)) + (-1)) → post (-6) (nI W, ms, ca, pe, vi, ps, dl, st, ln))
    (h0 : ¬ ca (64 * w + (16 * a + 4 * e + r)) = 0 → pt_aft pe w (16 * a + 4 * e + r) (pe (64 * w + (16 * a + 4 * e + r)) + (-1)) ≤ 16 →
      post 0 (nI W, ms, upd ca (64 * w + (16 * a + 4 * e + r)) (ca (64 * w + (16 * a + 4 * e + r)) - 1), upd pe (64 * w + (16 * a + 4 * e + r)) (pe (64 * w + (16 * a + 4 * e + r)) - 1), vi, ps, dl, st, ln)) :
    wpY_drop post (nI W, ms, ca, pe, vi, ps, dl, st, ln) (nI w) (nI a) (nI e) (nI r) := by
  have hal := pt_aft_le pe w (16 * a + 4 * e + r) (pe (64 * w + (16 * a + 4 * e + r)) + (-1))
  unfold wpY_drop
  refine py_g4 hW (fun n => absurd ⟨⟨w, hw, rfl⟩, ⟨a, ha, rfl⟩, ⟨e, he, rfl⟩, ⟨r, hr, rfl⟩⟩ n) (fun _ _ _ _ => py_idx ?_)
  have hi2 : vp_in (nI (64 * w + (16 * a + 4 * e + r))) 256 := vp_in_nI (by omega) (by omega)
  rw [pt_w64, nI_clamp (show 64 * w + (16 * a + 4 * e + r) < 2 ^ 31 by omega)]
  exact ⟨hi2, br_c h2 (fun hc => py_after1 (by omega) (by omega) (pk_le _ 16 (fun h => ⟨hi2, hi2, nm_e ⟨hi2, hi2, nm_e (h0 hc h)⟩⟩) (fun h => h6 hc h)))⟩
theorem py_adv {post : Int32 → SY → Prop} {w e : Nat} (hW : W ≤ 4) (hw : w < W) (he : e < 4)
    (h2 : ca (64 * w + 4 * e) = 0 → post (-2) (nI W, ms, ca, pe, vi, ps, dl, st, ln))
    (h5 : ¬ ca (64 * w + 4 * e) = 0 → e = 3 → post (-5) (nI W, ms, ca, pe, vi, ps, dl, st, ln))
    (h6 : ¬ ca (64 * w + 4 * e) = 0 → e < 3 → 16 < pt_aft2 pe w (4 * e) (4 * (e + 1)) (pe (64 * w + 4 * e) + (-1)) (pe (64 * w + 4 * (e + 1)) + 1) → post (-6) (nI W, ms, ca, pe, vi, ps, dl, st, ln))
    (h0 : ¬ ca (64 * w + 4 * e) = 0 → e < 3 → pt_aft2 pe w (4 * e) (4 * (e + 1)) (pe (64 * w + 4 * e) + (-1)) (pe (64 * w + 4 * (e + 1)) + 1) ≤ 16 →
      post 0 (nI W, ms, upd (upd ca (64 * w + 4 * e) (ca (64 * w + 4 * e) - 1)) (64 * w + 4 * (e + 1)) (upd ca (64 * w + 4 * e) (ca (64 * w + 4 * e) - 1) (64 * w + 4 * (e + 1)) + 1), upd (upd pe (64 * w + 4 * e) (pe (64 * w + 4 * e) - 1)) (64 * w + 4 * (e + 1)) (upd pe (64 * w + 4 * e) (pe (64 * w + 4 * e) - 1) (64 * w + 4 * (e + 1)) + 1), vi, ps, dl, st, ln)) :
    wpY_advanceInput post (nI W, ms, ca, pe, vi, ps, dl, st, ln) (nI w) (nI e) := by
  have hal := pt_aft2_le pe w (4 * e) (4 * (e + 1)) (pe (64 * w + 4 * e) + (-1)) (pe (64 * w + 4 * (e + 1)) + 1)
  unfold wpY_advanceInput
  refine py_g2 hW (fun n => absurd ⟨⟨w, hw, rfl⟩, ⟨e, he, rfl⟩⟩ n) (fun _ _ => py_idx (a := 0) (c := 0) ?_)
  have hi1 : vp_in (nI (64 * w + 4 * e)) 256 := vp_in_nI (by omega) (by omega)
  rw [show 16 * 0 + 4 * e + 0 = 4 * e by omega, pt_w64, nI_clamp (show 64 * w + 4 * e < 2 ^ 31 by omega)]
  refine ⟨hi1, br_c h2 (fun hc => pk_eq e 3 (fun z => h5 hc z) (fun z => ?_))⟩
  rw [nI_1 e]
  refine py_idx (a := 0) (c := 0) ?_
  have hi2 : vp_in (nI (64 * w + 4 * (e + 1))) 256 := vp_in_nI (by omega) (by omega)
  rw [show 16 * 0 + 4 * (e + 1) + 0 = 4 * (e + 1) by omega, pt_w64, nI_clamp (show 64 * w + 4 * (e + 1) < 2 ^ 31 by omega)]
  exact py_after2 (by omega) (by omega) (by omega) (by omega) (pk_le _ 16 (fun h => ⟨hi1, hi1, nm_e ⟨hi2, hi2, nm_e ⟨hi1, hi1, nm_e ⟨hi2, hi2, nm_e (h0 hc (by omega) h)⟩⟩⟩⟩) (fun h => h6 hc (by omega) h))
end
end
section
/-! Y: broadcast, deliver -/
theorem py_nar0 : vp_nar .boolean 0 = 0 := by decide
theorem py_nar1 : vp_nar .boolean 1 = 1 := by decide
theorem py_narF (c : Nat) : vp_nar .boolean (if c = 0 then 1 else 0) = if c = 0 then 1 else 0 := by
  by_cases h : c = 0
  · rw [if_pos h, py_nar1]
  · rw [if_neg h, py_nar0]
theorem pt_c32a (c y : Nat) : nI c * 32 + nI y = nI (32 * c + y) := by rw [pt_c32, nI_add]
theorem pt_st01 : ∀ (l : List Nat) (j : Nat), pt_st l j = 0 ∨ pt_st l j = 1
  | [], _ => Or.inl rfl
  | a :: l, j => by
    show (if j = 0 then 1 else if j < a then 0 else pt_st l (j - a)) = (0 : Int32) ∨ (if j = 0 then 1 else if j < a then 0 else pt_st l (j - a)) = (1 : Int32)
    by_cases h : j = 0
    · rw [if_pos h]; exact Or.inr rfl
    · rw [if_neg h]
      by_cases g : j < a
      · rw [if_pos g]; exact Or.inl rfl
      · rw [if_neg g]; exact pt_st01 l (j - a)
theorem py_narS (l : List Nat) (j : Nat) : vp_nar .boolean (pt_st l j) = pt_st l j := by
  rcases pt_st01 l j with h | h
  · rw [h, py_nar0]
  · rw [h, py_nar1]
section
variable {ms ca pe vi ps dl st ln : Nat → Int32} {W : Nat} {f0 : Int32}
theorem py_append {post : Int32 → SY → Prop} {J : Int32 → (Nat → Int32) → (Nat → Int32) → (Nat → Int32) → (Nat → Int32) → (Nat → Int32) → (Nat → Int32) → (Nat → Int32) → (Nat → Int32) → Prop} {w r n len : Nat} (hw : w < 4) (hr : r < 4) (hn : pt_cnt pe (64 * w) 64 = n) (hlen : ln (4 * w + r) = nI len) (hroom : len + n ≤ 32)
    (h : J (nI (r + 1)) ms ca pe vi (pt_ep pe (64 * w) (32 * (4 * w + r) + (ln (4 * w + r)).toNatClampNeg) ps 64) (pt_ed pe (64 * w) (32 * (4 * w + r) + (ln (4 * w + r)).toNatClampNeg) dl 64) (pt_cs pe (64 * w) (32 * (4 * w + r) + (ln (4 * w + r)).toNatClampNeg) st 64) (upd ln (4 * w + r) (ln (4 * w + r) + nI n))) :
    ∃ k, wY_broadcast_95 post J (nI w) (nI n) (nI r) (nI (4 * w + r)) f0 k (nI len) 1 0 ms ca pe vi ps dl st ln := by
  have e2 : (ln (4 * w + r)).toNatClampNeg = len := by rw [hlen, nI_clamp (by omega)]
  rw [e2, hlen, nI_add] at h
  refine loop_0 (fun k i (s : Int32 × Int32 × (Nat → Int32) × (Nat → Int32) × (Nat → Int32)) => wY_broadcast_95 post J (nI w) (nI n) (nI r) (nI (4 * w + r)) f0 k s.1 s.2.1 (nI i) ms ca pe vi s.2.2.1 s.2.2.2.1 s.2.2.2.2 ln)
    (fun i s => s = (nI (len + pt_cnt pe (64 * w) i), (if pt_cnt pe (64 * w) i = 0 then 1 else 0), pt_ep pe (64 * w) (32 * (4 * w + r) + len) ps i, pt_ed pe (64 * w) (32 * (4 * w + r) + len) dl i, pt_cs pe (64 * w) (32 * (4 * w + r) + len) st i)) 64 (nI len, 1, ps, dl, st) rfl ?_ ?_
  · rintro k s rfl
    refine pk_le 64 64 (fun _ => ⟨vp_in_nI (by omega) (by omega), ?_⟩) (fun z => absurd z (by omega))
    rw [nI_clamp (by omega)]
    dsimp only
    rw [hn]
    exact nm_e (nm_r (nI_1 r) h)
  · rintro k i s hi rfl hk
    have hcl := pt_cnt_mono pe (64 * w) (show i + 1 ≤ 64 by omega)
    rw [pt_cnt_s, hn] at hcl
    have hip : vp_in (nI (64 * w + i)) 256 := vp_in_nI (by omega) (by omega)
    refine pk_le 64 i (fun z => absurd z (by omega)) (fun _ => ?_)
    dsimp only
    rw [pt_w64, nI_clamp (show 64 * w + i < 2 ^ 31 by omega)]
    refine ⟨hip, ?_⟩
    by_cases z : pe (64 * w + i) = 0
    · refine br_t z (nm_r (nI_1 i) (hk (_, _, _, _, _) ?_))
      rw [pt_cnt_s, pt_nz_0 z, pt_ep_z z, pt_ed_z z, pt_cs_z z]
      rfl
    · rw [pt_nz_1 z] at hcl
      refine br_f z (pk_le 32 (len + pt_cnt pe (64 * w) i) (fun y => absurd y (by omega)) (fun _ => ?_))
      rw [pt_c32a, nI_clamp (show 32 * (4 * w + r) + (len + pt_cnt pe (64 * w) i) < 2 ^ 31 by omega), py_narF]
      have hx : vp_in (nI (32 * (4 * w + r) + (len + pt_cnt pe (64 * w) i))) 512 := vp_in_nI (by omega) (by omega)
      refine ⟨hx, nm_e ⟨hip, hx, nm_e ⟨hx, nm_e (nm_r (nI_1 _) (nm_r (nI_1 i) (hk (_, _, _, _, _) ?_)))⟩⟩⟩
      rw [pt_cnt_s, pt_nz_1 z, pt_ep_p z, pt_ed_p z, pt_cs_p z, if_neg (show ¬ pt_cnt pe (64 * w) i + 1 = 0 by omega), show 32 * (4 * w + r) + (len + pt_cnt pe (64 * w) i) = 32 * (4 * w + r) + len + pt_cnt pe (64 * w) i by omega]
      rfl
theorem py_clear {post : Int32 → SY → Prop} {w : Nat} {x : Int32} (hw : w < 4) (h : post x (f0, ms, ca, pt_clr (64 * w) pe 64, vi, ps, dl, st, ln)) : ∃ k, wY_broadcast_208 post (nI w) x f0 k 0 ms ca pe vi ps dl st ln := by
  refine loop_0 (fun k i s => wY_broadcast_208 post (nI w) x f0 k (nI i) ms ca s vi ps dl st ln) (fun i s => s = pt_clr (64 * w) pe i) 64 pe rfl ?_ ?_
  · rintro k s rfl
    exact pk_le 64 64 (fun _ => h) (fun z => absurd z (by omega))
  · rintro k i s hi rfl hn
    refine pk_le 64 i (fun z => absurd z (by omega)) (fun _ => ⟨pk_in (64 * w + i) 256 (by omega) (pt_w64 w i), ?_⟩)
    rw [pt_w64, nI_clamp (by omega)]
    exact nm_e (nm_r (nI_1 i) (hn _ rfl))
theorem py_bloop {post : Int32 → SY → Prop} {w n : Nat} (hW : W ≤ 4) (hw : w < W) (hn : pt_cnt pe (64 * w) 64 = n)
    (H : ∀ r, r < W → ∃ len, ln (4 * w + r) = nI len ∧ len + n ≤ 32)
    (h : post (nI n) (nI W, ms, ca, pt_clr (64 * w) pe 64, vi, pt_bep pe w n ln ps W, pt_bed pe w n ln dl W, pt_bcs pe w n ln st W, pt_bec w n ln W)) :
    ∃ k, wY_broadcast_65 post (nI w) (nI n) (nI W) k 0 ms ca pe vi ps dl st ln := by
  refine loop_0 (fun k i (s : (Nat → Int32) × (Nat → Int32) × (Nat → Int32) × (Nat → Int32)) => wY_broadcast_65 post (nI w) (nI n) (nI W) k (nI i) ms ca pe vi s.1 s.2.1 s.2.2.1 s.2.2.2)
    (fun i s => s = (pt_bep pe w n ln ps i, pt_bed pe w n ln dl i, pt_bcs pe w n ln st i, pt_bec w n ln i)) W (ps, dl, st, ln) rfl ?_ ?_
  · rintro k s rfl
    exact pk_le W W (fun _ => py_clear (by omega) h) (fun z => absurd z (by omega))
  · rintro k i s hi rfl hk
    obtain ⟨len, q1, q3⟩ := H i hi
    have q0 : pt_bec w n ln i (4 * w + i) = nI len := by rw [pt_bec_hi (by omega), q1]
    refine pk_le W i (fun z => absurd z (by omega)) (fun _ => nm_r (pt_w4 w i) ⟨vp_in_nI (by omega) (by omega), ?_⟩)
    dsimp only
    rw [nI_clamp (by omega), q0]
    exact nm_e (py_append (by omega) (by omega) hn q0 q3 (hk (_, _, _, _) rfl))
theorem py_broadcast {post : Int32 → SY → Prop} {w n : Nat} (hW : W ≤ 4) (hw : w < W) (hn : pt_cnt pe (64 * w) 64 = n) (H : ∀ r, r < W → ∃ len, len ≤ 32 ∧ ln (4 * w + r) = nI len)
    (h8 : n = 0 → post (-8) (nI W, ms, ca, pe, vi, ps, dl, st, ln))
    (h7 : 1 ≤ n → (∃ r, r < W ∧ ¬ ln (4 * w + r) ≤ 32 - nI n) → post (-7) (nI W, ms, ca, pe, vi, ps, dl, st, ln))
    (h0 : 1 ≤ n → (∀ r, r < W → ln (4 * w + r) ≤ 32 - nI n) → post (nI n) (nI W, ms, ca, pt_clr (64 * w) pe 64, vi, pt_bep pe w n ln ps W, pt_bed pe w n ln dl W, pt_bcs pe w n ln st W, pt_bec w n ln W)) :
    wpY_broadcast post (nI W, ms, ca, pe, vi, ps, dl, st, ln) (nI w) := by
  have hle := pt_cnt_le pe (64 * w) 64
  unfold wpY_broadcast
  refine py_okWc hW (fun _ => br_f pt_10 (py_after0 (by omega) ?_)) (fun t => absurd ⟨w, hw, rfl⟩ t)
  rw [hn] at hle ⊢
  refine pk_eq n 0 (fun z => h8 z) (fun z => ?_)
  refine loop_0 (σ := Unit) (fun k i _ => wY_broadcast_29 post (nI w) (nI n) (nI W) ms ca pe vi ps dl st ln k (nI i)) (fun i _ => ∀ r, r < i → ln (4 * w + r) ≤ 32 - nI n) W () (fun r hr => absurd hr (by omega)) ?_ ?_
  · intro k _ hs
    refine pk_le W W (fun _ => py_bloop hW hw hn (fun r hr => ?_) (h0 (by omega) hs)) (fun z => absurd z (by omega))
    obtain ⟨len, g1, g2⟩ := H r hr
    have := hs r hr
    rw [g2, pt_roomE g1 hle] at this
    exact ⟨len, g2, this⟩
  · intro k i _ hi hs hk
    refine pk_le W i (fun z => absurd z (by omega)) (fun _ => ?_)
    rw [pt_w4, nI_clamp (by omega)]
    refine ⟨vp_in_nI (by omega) (by omega), ?_⟩
    by_cases z : ln (4 * w + i) ≤ 32 - nI n
    · refine br_t z (nm_r (nI_1 i) (hk () (fun r hr => ?_)))
      by_cases e : r = i
      · rw [e]; exact z
      · exact hs r (by omega)
    · exact br_f z (h7 (by omega) ⟨i, hi, z⟩)
theorem py_shift {post : Int32 → SY → Prop} {c a : Nat} {l : List Nat} (hc : c < 16) (ha : 1 ≤ a) (hab : a + pt_sum l ≤ 32) (hm : pt_mk (a :: l) c st)
    (h : post (nI a) (f0, ms, ca, pe, vi, pt_sh a (32 * c) ps (pt_sum l), pt_sh a (32 * c) dl (pt_sum l), pt_sh a (32 * c) st (pt_sum l), upd ln c (nI (pt_sum l)))) :
    ∃ k, wY_deliver_135 post (nI c) (nI (a + pt_sum l)) (nI (32 * c)) (nI a) f0 k (nI a) ms ca pe vi ps dl st ln := by
  refine pk_loop (fun k i (s : (Nat → Int32) × (Nat → Int32) × (Nat → Int32)) => wY_deliver_135 post (nI c) (nI (a + pt_sum l)) (nI (32 * c)) (nI a) f0 k (nI i) ms ca pe vi s.1 s.2.1 s.2.2 ln)
    (fun i s => ∃ j, i = a + j ∧ s = (pt_sh a (32 * c) ps j, pt_sh a (32 * c) dl j, pt_sh a (32 * c) st j)) (a + pt_sum l) a (ps, dl, st) (by omega) ⟨0, rfl, rfl⟩ ?_ ?_
  · rintro k s ⟨j, hj, rfl⟩
    obtain rfl : j = pt_sum l := by omega
    refine pk_le (a + pt_sum l) (a + pt_sum l) (fun _ => ⟨vp_in_nI hc (by omega), ?_⟩) (fun z => absurd z (by omega))
    rw [nI_clamp (by omega), pk_sub (by omega), show a + pt_sum l - a = pt_sum l by omega]
    exact nm_e h
  · rintro k i s hi ⟨j, rfl, rfl⟩ hn
    refine pk_le (a + pt_sum l) (a + j) (fun z => absurd z (by omega)) (fun _ => ?_)
    dsimp only
    have hv : pt_sh a (32 * c) st j (32 * c + j + a) = pt_st (a :: l) (a + j) := by
      rw [pt_sh_ge (by omega), show 32 * c + j + a = 32 * c + (a + j) by omega]
      exact hm (a + j) hi
    have hs : pt_sh a (32 * c) st (j + 1) = upd (pt_sh a (32 * c) st j) (32 * c + j) (pt_sh a (32 * c) st j (32 * c + j + a)) := rfl
    rw [nI_add, pk_sub (by omega), show 32 * c + (a + j) - a = 32 * c + j by omega, show 32 * c + (a + j) = 32 * c + j + a by omega, nI_clamp (show 32 * c + j + a < 2 ^ 31 by omega), nI_clamp (show 32 * c + j < 2 ^ 31 by omega), hv, py_narS]
    rw [hv] at hs
    have hi1 : vp_in (nI (32 * c + j + a)) 512 := vp_in_nI (by omega) (by omega)
    have hi2 : vp_in (nI (32 * c + j)) 512 := vp_in_nI (by omega) (by omega)
    refine ⟨hi1, hi2, nm_e ⟨hi1, hi2, nm_e ⟨hi1, hi2, nm_e (nm_r (nI_1 (a + j)) (hn (_, _, _) ⟨j + 1, by omega, ?_⟩))⟩⟩⟩
    rw [hs]
    rfl
theorem py_apply {post : Int32 → SY → Prop} {c r a : Nat} {x4 : Int32} (hc : c < 16) (hr : r < 4) (ha : a ≤ 32) (he : ∀ i, ∃ p, p < 64 ∧ ps i = nI p)
    (h : ∃ k, wY_deliver_135 post (nI c) x4 (nI (32 * c)) (nI a) f0 k (nI a) ms ca pe (pt_vw ps dl (32 * c) (64 * r) vi a) ps dl st ln) :
    ∃ k, wY_deliver_85 post (nI r) (nI c) x4 (nI (32 * c)) (nI a) f0 k 0 ms ca pe vi ps dl st ln := by
  refine loop_0 (fun k i s => wY_deliver_85 post (nI r) (nI c) x4 (nI (32 * c)) (nI a) f0 k (nI i) ms ca pe s ps dl st ln) (fun i s => s = pt_vw ps dl (32 * c) (64 * r) vi i) a vi rfl ?_ ?_
  · rintro k s rfl
    exact pk_le a a (fun _ => h) (fun z => absurd z (by omega))
  · rintro k i s hi rfl hn
    obtain ⟨p, hp, e⟩ := he (32 * c + i)
    refine pk_le a i (fun z => absurd z (by omega)) (fun _ => ?_)
    rw [nI_add, nI_clamp (show 32 * c + i < 2 ^ 31 by omega), e, pt_w64, nI_clamp (show 64 * r + p < 2 ^ 31 by omega)]
    have hi1 : vp_in (nI (32 * c + i)) 512 := vp_in_nI (by omega) (by omega)
    have hi2 : vp_in (nI (64 * r + p)) 256 := vp_in_nI (by omega) (by omega)
    refine ⟨hi1, hi2, hi1, hi2, nm_e (nm_r (nI_1 i) (hn _ ?_))⟩
    show _ = upd (pt_vw ps dl (32 * c) (64 * r) vi i) (64 * r + (ps (32 * c + i)).toNatClampNeg) (pt_vw ps dl (32 * c) (64 * r) vi i (64 * r + (ps (32 * c + i)).toNatClampNeg) + dl (32 * c + i))
    rw [e, nI_clamp (show p < 2 ^ 31 by omega)]
theorem py_scan {post : Int32 → SY → Prop} {c r a : Nat} {l : List Nat} (hc : c < 16) (ha : 1 ≤ a) (hab : a + pt_sum l ≤ 32) (hm : pt_mk (a :: l) c st) (hl : pt_all1 l)
    (h : ∃ k, wY_deliver_85 post (nI r) (nI c) (nI (a + pt_sum l)) (nI (32 * c)) (nI a) f0 k 0 ms ca pe vi ps dl st ln) :
    ∃ k, wY_deliver_49 post (nI r) (nI c) (nI (a + pt_sum l)) (nI (32 * c)) f0 ms ca pe vi ps dl st ln k 1 := by
  refine pk_loop (σ := Unit) (fun k i _ => wY_deliver_49 post (nI r) (nI c) (nI (a + pt_sum l)) (nI (32 * c)) f0 ms ca pe vi ps dl st ln k (nI i)) (fun i _ => 1 ≤ i) a 1 () ha (Nat.le_refl 1) ?_ ?_
  · intro k _ _
    refine pk_le (a + pt_sum l) a (fun _ => h) (fun z => pk_le 32 a (fun y => absurd y (by omega)) (fun _ => ⟨pk_in (32 * c + a) 512 (by omega) (nI_add _ _), ?_⟩))
    rw [nI_add, nI_clamp (by omega)]
    refine br_f ?_ h
    rw [hm a (show a < a + pt_sum l by omega), show pt_st (a :: l) a = pt_st l 0 from pt_st_out (j := 0) ha]
    cases l with
    | nil => exact absurd z (by show ¬ a < a + 0; omega)
    | cons b l => rw [pt_st_0]; decide
  · intro k i _ hi h1 hn
    refine pk_le (a + pt_sum l) i (fun z => absurd z (by omega)) (fun z => pk_le 32 i (fun y => absurd y (by omega)) (fun _ => ⟨pk_in (32 * c + i) 512 (by omega) (nI_add _ _), ?_⟩))
    rw [nI_add, nI_clamp (by omega)]
    refine br_t ?_ (nm_r (nI_1 i) (hn () (by omega)))
    rw [hm i (show i < a + pt_sum l by omega)]
    exact pt_st_in (by omega) hi
theorem py_deliver0 {post : Int32 → SY → Prop} {s r : Nat} (hW : W ≤ 4) (hs : s < W) (hr : r < W) (h0 : ln (4 * s + r) = 0) (h : post (-8) (nI W, ms, ca, pe, vi, ps, dl, st, ln)) :
    wpY_deliver post (nI W, ms, ca, pe, vi, ps, dl, st, ln) (nI s) (nI r) := by
  unfold wpY_deliver
  refine py_gWW hW (fun n => absurd ⟨⟨s, hs, rfl⟩, ⟨r, hr, rfl⟩⟩ n) (fun _ _ => nm_r (pt_w4 s r) ⟨vp_in_nI (by omega) (by omega), ?_⟩)
  rw [nI_clamp (by omega), h0]
  exact nm_e (br_t rfl h)
theorem py_deliver {post : Int32 → SY → Prop} {s r a : Nat} {l : List Nat} (hW : W ≤ 4) (hs : s < W) (hr : r < W) (he : ∀ i, ∃ p, p < 64 ∧ ps i = nI p) (hl : pt_all1 (a :: l)) (hsum : a + pt_sum l ≤ 32) (hln : ln (4 * s + r) = nI (a + pt_sum l)) (hm : pt_mk (a :: l) (4 * s + r) st)
    (h : post (nI a) (nI W, ms, ca, pe, pt_vw ps dl (32 * (4 * s + r)) (64 * r) vi a, pt_sh a (32 * (4 * s + r)) ps (pt_sum l), pt_sh a (32 * (4 * s + r)) dl (pt_sum l), pt_sh a (32 * (4 * s + r)) st (pt_sum l), upd ln (4 * s + r) (nI (pt_sum l)))) :
    wpY_deliver post (nI W, ms, ca, pe, vi, ps, dl, st, ln) (nI s) (nI r) := by
  obtain ⟨ha, hl'⟩ := pt_all1_c hl
  unfold wpY_deliver
  refine py_gWW hW (fun n => absurd ⟨⟨s, hs, rfl⟩, ⟨r, hr, rfl⟩⟩ n) (fun _ _ => nm_r (pt_w4 s r) ⟨vp_in_nI (by omega) (by omega), ?_⟩)
  rw [nI_clamp (by omega), hln]
  refine nm_e (br_f (nI_ne0 (by omega) (by omega)) (nm_r (pt_c32 _) ?_))
  exact py_scan (by omega) ha hsum hm hl' (py_apply (by omega) (by omega) (by omega) he (py_shift (by omega) ha hsum hm h))
end
end
section
/-! Y: the calls that only ask -/
theorem pt_KI_t : ∀ a, a < 4 → ∀ b, b < 4 → pt_KI a b = (if a = 0 then 0 else if a = 3 then (if b = 3 then 0 else -1) else if b = 0 then -1 else if a = 2 then (if b = 1 then 1 else 0) else 0) := by decide +kernel
theorem pt_m1n : (-1 : Int32) < 0 := by decide
section
variable {ms ca pe vi ps dl st ln : Nat → Int32} {W : Nat} {f0 : Int32}
theorem py_sum {post : Int32 → Prop} {a b : Nat} (ha : a < 4) (hb : b < 4) (h : post (pt_KI a b)) : wpY_summary post (f0, ms, ca, pe, vi, ps, dl, st, ln) (nI a) (nI b) := by
  rw [pt_KI_t a ha b hb] at h
  refine pk_eq a 0 (fun z => ?_) (fun z => pk_eq a 3 (fun y => pk_eq b 3 (fun t => ?_) (fun t => ?_)) (fun y => pk_eq b 0 (fun x => ?_) (fun x => pk_eq a 2 (fun v => pk_eq b 1 (fun t => ?_) (fun t => ?_)) (fun v => ?_))))
  · rw [if_pos z] at h; exact h
  · rw [if_neg z, if_pos y, if_pos t] at h; exact h
  · rw [if_neg z, if_pos y, if_neg t] at h; exact h
  · rw [if_neg z, if_neg y, if_pos x] at h; exact h
  · rw [if_neg z, if_neg y, if_neg x, if_pos v, if_pos t] at h; exact h
  · rw [if_neg z, if_neg y, if_neg x, if_pos v, if_neg t] at h; exact h
  · rw [if_neg z, if_neg y, if_neg x, if_neg v] at h; exact h
theorem py_could {post : Int32 → Prop} {p o e r : Nat} (hp : p < 64) (ho : o < 4) (he : e < 4) (hr : r < 4) (h1 : pt_cr p o e r → post 1) (h0 : ¬ pt_cr p o e r → post 0) : wpY_could post (f0, ms, ca, pe, vi, ps, dl, st, ln) (nI p) (nI o) (nI e) (nI r) := by
  unfold wpY_could
  rw [pt_m4 hp, pt_d16 hp, pt_d4 hp, pt_m4 (show p / 4 < 64 by omega)]
  refine ⟨pt_n16, nm_e ⟨pt_n4, pt_n4, nm_e ⟨pt_n4, nm_e (py_sum (by omega) ho ?_)⟩⟩⟩
  rcases pt_KI_K (p / 16) (by omega) o ho with ⟨k1, k2⟩ | ⟨k1, k2⟩
  · rw [k2]
    exact br_t pt_m1n (h0 (fun t => by have := t.2; omega))
  · rw [k2, nI_add]
    exact br_f (nI_pos (by omega)) (pk_lt e (p / 4 % 4) (fun z => h0 (fun t => by have := t.1; omega)) (fun z => pk_lt r (p % 4 + pt_K (p / 16) o) (fun y => h0 (fun t => by have := t.2; omega)) (fun y => h1 ⟨by omega, by omega⟩)))
theorem py_canReach {post : Int32 → Prop} {w o e r : Nat} (hW : W ≤ 4) (hw : w < W) (ho : o < 4) (he : e < 4) (hr : r < 4) (h1 : (∃ p, p < 64 ∧ ¬ vi (64 * w + p) ≤ 0 ∧ pt_cr p o e r) → post 1) (h0 : (∀ p, p < 64 → ¬ vi (64 * w + p) ≤ 0 → ¬ pt_cr p o e r) → post 0) :
    wpY_canReach post (nI W, ms, ca, pe, vi, ps, dl, st, ln) (nI w) (nI o) (nI e) (nI r) := by
  unfold wpY_canReach
  refine py_g4 hW (fun n => absurd ⟨⟨w, hw, rfl⟩, ⟨o, ho, rfl⟩, ⟨e, he, rfl⟩, ⟨r, hr, rfl⟩⟩ n) (fun _ _ _ _ => ?_)
  refine loop_0 (σ := Unit) (fun k i _ => wY_canReach_38 post (nI w) (nI o) (nI e) (nI r) (nI W) ms ca pe vi ps dl st ln k (nI i)) (fun i _ => ∀ p, p < i → ¬ vi (64 * w + p) ≤ 0 → ¬ pt_cr p o e r) 64 () (fun p hp => absurd hp (by omega)) ?_ ?_
  · intro k _ hs
    exact pk_le 64 64 (fun _ => h0 hs) (fun z => absurd z (by omega))
  · intro k i _ hi hs hn
    refine pk_le 64 i (fun z => absurd z (by omega)) (fun _ => ⟨pk_in (64 * w + i) 256 (by omega) (pt_w64 w i), ?_⟩)
    rw [pt_w64, nI_clamp (by omega)]
    have step : (¬ vi (64 * w + i) ≤ 0 → ¬ pt_cr i o e r) → ∀ p, p < i + 1 → ¬ vi (64 * w + p) ≤ 0 → ¬ pt_cr p o e r := by
      intro hx p hp
      by_cases e : p = i
      · rw [e]; exact hx
      · exact hs p (by omega)
    refine br_c (fun z => nm_r (nI_1 i) (hn () (step (fun g => absurd z g)))) (fun z => py_could hi ho he hr (fun g => br_f pt_10 (h1 ⟨i, hi, z, g⟩)) (fun g => br_t rfl (nm_r (nI_1 i) (hn () (step (fun _ => g))))))
theorem py_caIn {post : Int32 → Prop} {J29 : Int32 → Prop} {o e r p k : Nat} (ho : o < 4) (he : e < 4) (hr : r < 4) (hp : p < 64) (hk : k < 2 ^ 20) (hm : ∀ i, ∃ a, a ≤ k ∧ ms i = nI a) (hc : ∀ i, ∃ a, a ≤ k ∧ ca i = nI a)
    (h1 : 0 < pt_occ ms ca p 4 → pt_cr p o e r → post 1) (h0 : (0 < pt_occ ms ca p 4 → ¬ pt_cr p o e r) → J29 (nI (p + 1))) :
    ∃ n, wY_couldArrive_48 post J29 (nI o) (nI e) (nI r) (nI p) f0 ms ca pe vi ps dl st ln n (ms p) 0 := by
  have hle := pt_occ_le (p := p) hk hm hc 4
  have e0 : ms p = nI (pt_occ ms ca p 0) := by
    obtain ⟨a, ha, ea⟩ := hm p
    show _ = nI ((ms p).toNatClampNeg)
    rw [ea, nI_clamp (by omega)]
  refine loop_0 (fun k i s => wY_couldArrive_48 post J29 (nI o) (nI e) (nI r) (nI p) f0 ms ca pe vi ps dl st ln k s (nI i)) (fun i s => s = nI (pt_occ ms ca p i)) 4 (ms p) e0 ?_ ?_
  · rintro k' s rfl
    refine pk_le 4 4 (fun _ => ?_) (fun z => absurd z (by omega))
    exact pk_le (pt_occ ms ca p 4) 0 (fun z => nm_r (nI_1 p) (h0 (fun g => absurd g (by omega)))) (fun z => py_could hp ho he hr (fun g => br_f pt_10 (h1 z g)) (fun g => br_t rfl (nm_r (nI_1 p) (h0 (fun _ => g)))))
  · rintro k' i s hi rfl hn
    obtain ⟨b, hb, eb⟩ := hc (64 * i + p)
    refine pk_le 4 i (fun z => absurd z (by omega)) (fun _ => ⟨pk_in (64 * i + p) 256 (by omega) (pt_w64 i p), ?_⟩)
    rw [pt_w64, nI_clamp (show 64 * i + p < 2 ^ 31 by omega)]
    refine nm_e (nm_r (nI_1 i) (hn _ ?_))
    show _ = nI (pt_occ ms ca p i + (ca (64 * i + p)).toNatClampNeg)
    rw [eb, nI_clamp (by omega), nI_add]
theorem py_couldArrive {post : Int32 → Prop} {o e r k : Nat} (ho : o < 4) (he : e < 4) (hr : r < 4) (hk : k < 2 ^ 20) (hm : ∀ i, ∃ a, a ≤ k ∧ ms i = nI a) (hc : ∀ i, ∃ a, a ≤ k ∧ ca i = nI a)
    (h1 : (∃ p, p < 64 ∧ 0 < pt_occ ms ca p 4 ∧ pt_cr p o e r) → post 1) (h0 : (∀ p, p < 64 → 0 < pt_occ ms ca p 4 → ¬ pt_cr p o e r) → post 0) :
    wpY_couldArrive post (f0, ms, ca, pe, vi, ps, dl, st, ln) (nI o) (nI e) (nI r) := by
  unfold wpY_couldArrive
  refine py_g3 (fun n => absurd ⟨⟨o, ho, rfl⟩, ⟨e, he, rfl⟩, ⟨r, hr, rfl⟩⟩ n) (fun _ _ _ => ?_)
  refine loop_0 (σ := Unit) (fun k i _ => wY_couldArrive_29 post (nI o) (nI e) (nI r) f0 ms ca pe vi ps dl st ln k (nI i)) (fun i _ => ∀ p, p < i → 0 < pt_occ ms ca p 4 → ¬ pt_cr p o e r) 64 () (fun p hp => absurd hp (by omega)) ?_ ?_
  · intro k _ hs
    exact pk_le 64 64 (fun _ => h0 hs) (fun z => absurd z (by omega))
  · intro k' i _ hi hs hn
    refine pk_le 64 i (fun z => absurd z (by omega)) (fun _ => ⟨vp_in_nI hi (by omega), ?_⟩)
    rw [nI_clamp (by omega)]
    refine nm_e (py_caIn ho he hr hi hk hm hc (fun g1 g2 => h1 ⟨i, hi, g1, g2⟩) (fun g => hn () (fun p hp => ?_)))
    by_cases e : p = i
    · rw [e]; exact g
    · exact hs p (by omega)
theorem pt_M_pt {f : Nat → Int32} {w o e r : Nat} (he : e < 4) : pt_M f w o e r ↔ ∃ p, p < 64 ∧ 0 < f (64 * w + p) ∧ p / 4 % 4 = e ∧ p % 4 + pt_K (p / 16) o = r := by
  constructor
  · rintro ⟨a, q, ha, hq, h1, h2⟩
    refine ⟨16 * a + 4 * e + q, by omega, h2, by omega, ?_⟩
    rw [show (16 * a + 4 * e + q) % 4 = q by omega, show (16 * a + 4 * e + q) / 16 = a by omega]
    exact h1
  · rintro ⟨p, hp, h1, h2, h3⟩
    refine ⟨p / 16, p % 4, by omega, by omega, h3, ?_⟩
    rw [show 16 * (p / 16) + 4 * e + p % 4 = p by omega]
    exact h1
theorem py_inM {post : Int32 → Prop} {w o e r : Nat} (hw : w < 4) (ho : o < 4) (he : e < 4) (hr : r < 5) (h1 : pt_M vi w o e r → post 1) (h0 : ¬ pt_M vi w o e r → post 0) : wpY_inM post (f0, ms, ca, pe, vi, ps, dl, st, ln) (nI w) (nI o) (nI e) (nI r) := by
  rw [pt_M_pt he] at h1 h0
  refine loop_0 (σ := Unit) (fun k i _ => wY_inM_3 post (nI w) (nI o) (nI e) (nI r) f0 ms ca pe vi ps dl st ln k (nI i)) (fun i _ => ∀ p, p < i → ¬ (0 < vi (64 * w + p) ∧ p / 4 % 4 = e ∧ p % 4 + pt_K (p / 16) o = r)) 64 () (fun p hp => absurd hp (by omega)) ?_ ?_
  · intro k _ hs
    refine pk_le 64 64 (fun _ => h0 ?_) (fun z => absurd z (by omega))
    rintro ⟨p, hp, g⟩
    exact hs p hp g
  · intro k i _ hi hs hn
    have skip : ¬ (0 < vi (64 * w + i) ∧ i / 4 % 4 = e ∧ i % 4 + pt_K (i / 16) o = r) → ∀ y, y = nI i + 1 → wY_inM_3 post (nI w) (nI o) (nI e) (nI r) f0 ms ca pe vi ps dl st ln k y := by
      intro hx
      refine nm_r (nI_1 i) (hn () (fun p hp => ?_))
      by_cases e : p = i
      · rw [e]; exact hx
      · exact hs p (by omega)
    refine pk_le 64 i (fun z => absurd z (by omega)) (fun _ => ⟨pk_in (64 * w + i) 256 (by omega) (pt_w64 w i), ?_⟩)
    rw [pt_w64, nI_clamp (show 64 * w + i < 2 ^ 31 by omega), pt_m4 hi, pt_d16 hi, pt_d4 hi, pt_m4 (show i / 4 < 64 by omega)]
    refine br_c (fun z => skip (fun t => absurd z (Int32.not_le.mpr t.1))) (fun z => ⟨pt_n16, py_sum (by omega) ho ?_⟩)
    rcases pt_KI_K (i / 16) (by omega) o ho with ⟨k1, k2⟩ | ⟨k1, k2⟩
    · rw [k2]
      exact br_t pt_m1n (skip (fun t => by have := t.2.2; omega))
    · rw [k2, nI_add]
      refine br_f (nI_pos (by omega)) ⟨pt_n4, pt_n4, pk_eq (i / 4 % 4) e (fun y => ⟨pt_n4, pk_eq (i % 4 + pt_K (i / 16) o) r (fun x => h1 ⟨i, hi, Int32.not_le.mp z, y, x⟩) (fun x => skip (fun t => x t.2.2))⟩) (fun y => skip (fun t => y t.2.1))⟩
theorem py_fIn {post : Int32 → Prop} {J17 : Int32 → Prop} {w o e r e2 : Nat} (hw : w < 4) (ho : o < 4) (he : e < 4) (hr : r < 5) (he2 : e2 ≤ e)
    (h1 : (∀ r2, r2 ≤ r → ¬ (e2 = e ∧ r2 = r) → ¬ pt_M vi w o e2 r2) → J17 (nI (e2 + 1))) (h0 : (∃ r2, r2 ≤ r ∧ ¬ (e2 = e ∧ r2 = r) ∧ pt_M vi w o e2 r2) → post 0) :
    ∃ k, wY_isFrontier_26 post J17 (nI w) (nI o) (nI e) (nI r) (nI e2) f0 ms ca pe vi ps dl st ln k 0 := by
  refine loop_0 (σ := Unit) (fun k i _ => wY_isFrontier_26 post J17 (nI w) (nI o) (nI e) (nI r) (nI e2) f0 ms ca pe vi ps dl st ln k (nI i)) (fun i _ => ∀ r2, r2 < i → ¬ (e2 = e ∧ r2 = r) → ¬ pt_M vi w o e2 r2) (r + 1) () (fun p hp => absurd hp (by omega)) ?_ ?_
  · intro k _ hs
    exact pk_lt r (r + 1) (fun _ => nm_r (nI_1 e2) (h1 (fun r2 hr2 => hs r2 (by omega)))) (fun z => absurd z (by omega))
  · intro k i _ hi hs hn
    have skip : (¬ (e2 = e ∧ i = r) → ¬ pt_M vi w o e2 i) → ∀ y, y = nI i + 1 → wY_isFrontier_26 post J17 (nI w) (nI o) (nI e) (nI r) (nI e2) f0 ms ca pe vi ps dl st ln k y := by
      intro hx
      refine nm_r (nI_1 i) (hn () (fun p hp => ?_))
      by_cases e : p = i
      · rw [e]; exact hx
      · exact hs p (by omega)
    have look : ¬ (e2 = e ∧ i = r) → wY_isFrontier_46 post J17 (wY_isFrontier_26 post J17 (nI w) (nI o) (nI e) (nI r) (nI e2) f0 ms ca pe vi ps dl st ln k) (nI w) (nI o) (nI e) (nI r) (nI e2) (nI i) f0 ms ca pe vi ps dl st ln := by
      intro hx
      unfold wY_isFrontier_46
      exact py_inM hw ho (by omega) (by omega) (fun g => br_f pt_10 (h0 ⟨i, by omega, hx, g⟩)) (fun g => br_t rfl (skip (fun _ => g)))
    exact pk_lt r i (fun z => absurd z (by omega)) (fun _ => pk_eq e2 e (fun y => pk_eq i r (fun x => skip (fun n => absurd ⟨y, x⟩ n)) (fun x => look (fun t => x t.2))) (fun y => look (fun t => y t.1)))
theorem py_isF {post : Int32 → Prop} {w o e r : Nat} (hw : w < 4) (ho : o < 4) (he : e < 4) (hr : r < 5) (h1 : pt_F vi w o e r → post 1) (h0 : ¬ pt_F vi w o e r → post 0) : wpY_isFrontier post (f0, ms, ca, pe, vi, ps, dl, st, ln) (nI w) (nI o) (nI e) (nI r) := by
  unfold wpY_isFrontier
  refine py_inM hw ho he hr (fun hM => br_f pt_10 ?_) (fun hM => br_t rfl (h0 (fun t => hM t.1)))
  refine loop_0 (σ := Unit) (fun k i _ => wY_isFrontier_17 post (nI w) (nI o) (nI e) (nI r) f0 ms ca pe vi ps dl st ln k (nI i)) (fun i _ => ∀ e2 r2, e2 < i → r2 ≤ r → ¬ (e2 = e ∧ r2 = r) → ¬ pt_M vi w o e2 r2) (e + 1) () (fun p _ hp => absurd hp (by omega)) ?_ ?_
  · intro k _ hs
    exact pk_lt e (e + 1) (fun _ => h1 ⟨hM, fun e2 r2 g1 => hs e2 r2 (by omega)⟩) (fun z => absurd z (by omega))
  · intro k i _ hi hs hn
    refine pk_lt e i (fun z => absurd z (by omega)) (fun _ => py_fIn hw ho he hr (by omega) (fun g => hn () (fun e2 r2 g1 g2 g3 => ?_)) (fun g => ?_))
    · by_cases x : e2 = i
      · rw [x] at g3 ⊢; exact g r2 g2 g3
      · exact hs e2 r2 (by omega) g2 g3
    · obtain ⟨r2, g1, g2, g3⟩ := g
      exact h0 (fun t => t.2 i r2 (by omega) g1 g2 g3)
theorem py_fsize {post : Int32 → Prop} {w o : Nat} (hW : W ≤ 4) (hw : w < W) (ho : o < 4) (h : post (nI (pt_sz (pt_L vi w o) 4))) : wpY_frontierSize post (nI W, ms, ca, pe, vi, ps, dl, st, ln) (nI w) (nI o) := by
  unfold wpY_frontierSize
  refine py_g2 hW (fun n => absurd ⟨⟨w, hw, rfl⟩, ⟨o, ho, rfl⟩⟩ n) (fun _ _ => ?_)
  refine loop_0 (fun k i s => wY_frontierSize_23 post (nI w) (nI o) (nI W) ms ca pe vi ps dl st ln k s (nI i)) (fun i s => s = nI (pt_sz (pt_L vi w o) i)) 4 0 rfl ?_ ?_
  · rintro k s rfl
    exact pk_le 4 4 (fun _ => h) (fun z => absurd z (by omega))
  · rintro k i s hi rfl hn
    have hl := pt_low_le (pt_L vi w o) i
    refine pk_le 4 i (fun z => absurd z (by omega)) (fun _ => ?_)
    refine loop_0 (fun k' r s => wY_frontierSize_32 post (wY_frontierSize_23 post (nI w) (nI o) (nI W) ms ca pe vi ps dl st ln k) (nI w) (nI o) (nI i) (nI W) ms ca pe vi ps dl st ln k' s (nI r))
      (fun r s => (pt_L vi w o i < pt_low (pt_L vi w o) i ∧ pt_L vi w o i < r → s = nI (pt_sz (pt_L vi w o) i + 1)) ∧ (¬ (pt_L vi w o i < pt_low (pt_L vi w o) i ∧ pt_L vi w o i < r) → s = nI (pt_sz (pt_L vi w o) i))) 5 _ ⟨fun z => absurd z.2 (by omega), fun _ => rfl⟩ ?_ ?_
    · rintro k' s ⟨g1, g2⟩
      refine pk_le 5 5 (fun _ => nm_r (nI_1 i) (hn _ ?_)) (fun z => absurd z (by omega))
      by_cases x : pt_L vi w o i < pt_low (pt_L vi w o) i
      · rw [pt_sz_t x]; exact g1 ⟨x, by omega⟩
      · rw [pt_sz_f x]; exact g2 (fun t => x t.1)
    · rintro k' r s hr ⟨g1, g2⟩ hn'
      refine pk_le 5 r (fun z => absurd z (by omega)) (fun _ => py_isF (by omega) ho hi hr (fun hF => br_f pt_10 ?_) (fun hF => br_t rfl ?_))
      · rw [pt_F_iff hr] at hF
        refine nm_e (nm_r (nI_1 r) (hn' _ ⟨fun _ => ?_, fun n => absurd ⟨hF.2, by omega⟩ n⟩))
        rw [g2 (fun t => by have := t.2; omega), nI_1]
      · rw [pt_F_iff hr] at hF
        refine nm_r (nI_1 r) (hn' _ ⟨fun t => g1 ⟨t.1, ?_⟩, fun n => g2 (fun t => n ⟨t.1, by omega⟩)⟩)
        have h2 : ¬ r = pt_L vi w o i := fun x => hF ⟨x, t.1⟩
        omega
theorem py_felem {post : Int32 → Prop} {w o : Nat} {ix : Int32} (hW : W ≤ 4) (hw : w < W) (ho : o < 4) (hix : 0 ≤ ix) (h : post (pt_el (pt_L vi w o) ix 4 0)) : wpY_frontierElement post (nI W, ms, ca, pe, vi, ps, dl, st, ln) (nI w) (nI o) ix := by
  unfold wpY_frontierElement
  refine py_g2 hW (fun n => absurd ⟨⟨w, hw, rfl⟩, ⟨o, ho, rfl⟩⟩ n) (fun _ _ => br_t hix ?_)
  refine loop_0 (fun k i s => wY_frontierElement_28 post (nI w) (nI o) ix (nI W) ms ca pe vi ps dl st ln k s (nI i)) (fun i s => s = nI (pt_sz (pt_L vi w o) i) ∧ ∃ d, i + d = 4 ∧ post (pt_el (pt_L vi w o) ix d i)) 4 0 ⟨rfl, 4, rfl, h⟩ ?_ ?_
  · rintro k s ⟨rfl, d, hd, hp⟩
    obtain rfl : d = 0 := by omega
    exact pk_le 4 4 (fun _ => hp) (fun z => absurd z (by omega))
  · rintro k i s hi ⟨rfl, d, hd, hp⟩ hn
    obtain ⟨d, rfl⟩ : ∃ d', d = d' + 1 := ⟨d - 1, by omega⟩
    have hl := pt_low_le (pt_L vi w o) i
    refine pk_le 4 i (fun z => absurd z (by omega)) (fun _ => ?_)
    refine loop_0 (fun k' r s => wY_frontierElement_37 post (wY_frontierElement_28 post (nI w) (nI o) ix (nI W) ms ca pe vi ps dl st ln k) (nI w) (nI o) ix (nI i) (nI W) ms ca pe vi ps dl st ln k' s (nI r))
      (fun r s => (pt_L vi w o i < pt_low (pt_L vi w o) i ∧ pt_L vi w o i < r → s = nI (pt_sz (pt_L vi w o) i + 1) ∧ ¬ nI (pt_sz (pt_L vi w o) i) = ix) ∧ (¬ (pt_L vi w o i < pt_low (pt_L vi w o) i ∧ pt_L vi w o i < r) → s = nI (pt_sz (pt_L vi w o) i))) 5 _ ⟨fun z => absurd z.2 (by omega), fun _ => rfl⟩ ?_ ?_
    · rintro k' s ⟨g1, g2⟩
      refine pk_le 5 5 (fun _ => nm_r (nI_1 i) (hn _ ⟨?_, d, by omega, ?_⟩)) (fun z => absurd z (by omega))
      · by_cases x : pt_L vi w o i < pt_low (pt_L vi w o) i
        · rw [pt_sz_t x]; exact (g1 ⟨x, by omega⟩).1
        · rw [pt_sz_f x]; exact g2 (fun t => x t.1)
      · by_cases x : pt_L vi w o i < pt_low (pt_L vi w o) i
        · rw [pt_el_f x (g1 ⟨x, by omega⟩).2] at hp; exact hp
        · rw [pt_el_n x] at hp; exact hp
    · rintro k' r s hr ⟨g1, g2⟩ hn'
      refine pk_le 5 r (fun z => absurd z (by omega)) (fun _ => py_isF (by omega) ho hi hr (fun hF => br_f pt_10 ?_) (fun hF => br_t rfl ?_))
      · rw [pt_F_iff hr] at hF
        have es : s = nI (pt_sz (pt_L vi w o) i) := g2 (fun t => by have := t.2; omega)
        by_cases y : nI (pt_sz (pt_L vi w o) i) = ix
        · refine br_t (by rw [es]; exact y) ?_
          rw [pt_el_t hF.2 y] at hp
          rw [pt_e16, hF.1]
          exact hp
        · refine br_f (by rw [es]; exact y) (nm_e (nm_r (nI_1 r) (hn' _ ⟨fun _ => ⟨?_, y⟩, fun n => absurd ⟨hF.2, by omega⟩ n⟩)))
          rw [es, nI_1]
      · rw [pt_F_iff hr] at hF
        refine nm_r (nI_1 r) (hn' _ ⟨fun t => g1 ⟨t.1, ?_⟩, fun n => g2 (fun t => n ⟨t.1, by omega⟩)⟩)
        have h2 : ¬ r = pt_L vi w o i := fun x => hF ⟨x, t.1⟩
        omega
theorem py_felemN {post : Int32 → Prop} {w o : Nat} {ix : Int32} (hW : W ≤ 4) (hw : w < W) (ho : o < 4) (hix : ¬ 0 ≤ ix) (h : post (-1)) : wpY_frontierElement post (nI W, ms, ca, pe, vi, ps, dl, st, ln) (nI w) (nI o) ix := by
  unfold wpY_frontierElement
  exact py_g2 hW (fun n => absurd ⟨⟨w, hw, rfl⟩, ⟨o, ho, rfl⟩⟩ n) (fun _ _ => br_f hix h)
theorem pt_el_neg {L : Nat → Nat} {ix : Int32} (h : ¬ 0 ≤ ix) : ∀ d e, e + d ≤ 4 → pt_el L ix d e = -1 := by
  intro d
  induction d with
  | zero => intro e _; rfl
  | succ d ih =>
    intro e he
    by_cases x : L e < pt_low L e
    · have hs := pt_sz_le L e
      rw [pt_el_f x (fun t => h (by rw [← t]; exact nI_pos' (by omega)))]
      exact ih (e + 1) (by omega)
    · rw [pt_el_n x]
      exact ih (e + 1) (by omega)
theorem py_viewC {post : Int32 → Prop} {w a e r : Nat} (hW : W ≤ 4) (hw : w < W) (ha : a < 4) (he : e < 4) (hr : r < 4) (h : post (vi (64 * w + (16 * a + 4 * e + r)))) : wpY_viewCount post (nI W, ms, ca, pe, vi, ps, dl, st, ln) (nI w) (nI a) (nI e) (nI r) := by
  unfold wpY_viewCount
  refine py_g4 hW (fun n => absurd ⟨⟨w, hw, rfl⟩, ⟨a, ha, rfl⟩, ⟨e, he, rfl⟩, ⟨r, hr, rfl⟩⟩ n) (fun _ _ _ _ => py_idx ?_)
  rw [pt_w64, nI_clamp (by omega)]
  exact ⟨vp_in_nI (by omega) (by omega), h⟩
theorem py_pendC {post : Int32 → Prop} {w a e r : Nat} (hW : W ≤ 4) (hw : w < W) (ha : a < 4) (he : e < 4) (hr : r < 4) (h : post (pe (64 * w + (16 * a + 4 * e + r)))) : wpY_pendingCount post (nI W, ms, ca, pe, vi, ps, dl, st, ln) (nI w) (nI a) (nI e) (nI r) := by
  unfold wpY_pendingCount
  refine py_g4 hW (fun n => absurd ⟨⟨w, hw, rfl⟩, ⟨a, ha, rfl⟩, ⟨e, he, rfl⟩, ⟨r, hr, rfl⟩⟩ n) (fun _ _ _ _ => py_idx ?_)
  rw [pt_w64, nI_clamp (by omega)]
  exact ⟨vp_in_nI (by omega) (by omega), h⟩
theorem py_capC {post : Int32 → Prop} {w a e r : Nat} (hW : W ≤ 4) (hw : w < W) (ha : a < 4) (he : e < 4) (hr : r < 4) (h : post (ca (64 * w + (16 * a + 4 * e + r)))) : wpY_capabilities post (nI W, ms, ca, pe, vi, ps, dl, st, ln) (nI w) (nI a) (nI e) (nI r) := by
  unfold wpY_capabilities
  refine py_g4 hW (fun n => absurd ⟨⟨w, hw, rfl⟩, ⟨a, ha, rfl⟩, ⟨e, he, rfl⟩, ⟨r, hr, rfl⟩⟩ n) (fun _ _ _ _ => py_idx ?_)
  rw [pt_w64, nI_clamp (by omega)]
  exact ⟨vp_in_nI (by omega) (by omega), h⟩
theorem py_msgC {post : Int32 → Prop} {a e r : Nat} (ha : a < 4) (he : e < 4) (hr : r < 4) (h : post (ms (16 * a + 4 * e + r))) : wpY_messages post (f0, ms, ca, pe, vi, ps, dl, st, ln) (nI a) (nI e) (nI r) := by
  unfold wpY_messages
  refine py_g3 (fun n => absurd ⟨⟨a, ha, rfl⟩, ⟨e, he, rfl⟩, ⟨r, hr, rfl⟩⟩ n) (fun _ _ _ => py_idx ⟨vp_in_nI (by omega) (by omega), ?_⟩)
  rw [nI_clamp (by omega)]
  exact h
theorem py_queued {post : Int32 → Prop} {s r : Nat} {l : List Nat} (hW : W ≤ 4) (hs : s < W) (hr : r < W) (hl : pt_all1 l) (hsum : pt_sum l ≤ 32) (hln : ln (4 * s + r) = nI (pt_sum l)) (hm : pt_mk l (4 * s + r) st) (h : post (nI l.length)) : wpY_queuedBatches post (nI W, ms, ca, pe, vi, ps, dl, st, ln) (nI s) (nI r) := by
  unfold wpY_queuedBatches
  refine py_gWW hW (fun n => absurd ⟨⟨s, hs, rfl⟩, ⟨r, hr, rfl⟩⟩ n) (fun _ _ => nm_r (pt_w4 s r) ?_)
  have hi : vp_in (nI (4 * s + r)) 16 := vp_in_nI (by omega) (by omega)
  have hc : (nI (4 * s + r)).toNatClampNeg = 4 * s + r := nI_clamp (by omega)
  refine loop_0 (fun k i x => wY_queuedBatches_30 post (nI (4 * s + r)) (nI W) ms ca pe vi ps dl st ln k x (nI i)) (fun i x => x = nI (pt_cnt st (32 * (4 * s + r)) i)) (pt_sum l) 0 rfl ?_ ?_
  · rintro k x rfl
    refine ⟨hi, ?_⟩
    rw [hc, hln]
    refine pk_le (pt_sum l) (pt_sum l) (fun _ => ?_) (fun z => absurd z (by omega))
    rw [pt_st_cnt hl hm]
    exact h
  · rintro k i x hi' rfl hn
    refine ⟨hi, ?_⟩
    rw [hc, hln]
    refine pk_le (pt_sum l) i (fun z => absurd z (by omega)) (fun _ => pk_le 32 i (fun z => absurd z (by omega)) (fun _ => ⟨pk_in (32 * (4 * s + r) + i) 512 (by omega) (pt_c32a _ _), ?_⟩))
    rw [pt_c32a, nI_clamp (show 32 * (4 * s + r) + i < 2 ^ 31 by omega)]
    by_cases z : st (32 * (4 * s + r) + i) = 0
    · refine br_t z (nm_r (nI_1 i) (hn _ ?_))
      rw [pt_cnt_s, pt_nz_0 z]
      rfl
    · refine br_f z (nm_e (nm_r (nI_1 i) (hn _ ?_)))
      rw [pt_cnt_s, pt_nz_1 z, nI_1]
theorem py_quiet {post : Int32 → Prop} (h1 : (∀ j, j < 256 → pe j = 0) → (∀ c, c < 16 → ln c = 0) → post 1) (h0 : ((∃ j, j < 256 ∧ ¬ pe j = 0) ∨ ∃ c, c < 16 ∧ ¬ ln c = 0) → post 0) :
    wpY_isQuiet post (f0, ms, ca, pe, vi, ps, dl, st, ln) := by
  refine loop_0 (σ := Unit) (fun k i _ => wY_isQuiet_2 post f0 ms ca pe vi ps dl st ln k (nI i)) (fun i _ => ∀ j, j < i → pe j = 0) 256 () (fun w h => absurd h (by omega)) ?_ ?_
  · intro k _ hs
    refine pk_le 256 256 (fun _ => ?_) (fun z => absurd z (by omega))
    refine loop_0 (σ := Unit) (fun k i _ => wY_isQuiet_28 post f0 ms ca pe vi ps dl st ln k (nI i)) (fun i _ => ∀ c, c < i → ln c = 0) 16 () (fun w h => absurd h (by omega)) ?_ ?_
    · intro k _ hs'
      exact pk_le 16 16 (fun _ => h1 hs hs') (fun z => absurd z (by omega))
    · intro k i _ hi hs' hn
      refine pk_le 16 i (fun z => absurd z (by omega)) (fun _ => ⟨vp_in_nI hi (by omega), ?_⟩)
      rw [nI_clamp (by omega)]
      refine br_c (fun z => nm_r (nI_1 i) (hn () (fun c hc => ?_))) (fun z => h0 (Or.inr ⟨i, hi, z⟩))
      by_cases e : c = i
      · rw [e]; exact z
      · exact hs' c (by omega)
  · intro k i _ hi hs hn
    refine pk_le 256 i (fun z => absurd z (by omega)) (fun _ => ⟨vp_in_nI hi (by omega), ?_⟩)
    rw [nI_clamp (by omega)]
    refine br_c (fun z => nm_r (nI_1 i) (hn () (fun c hc => ?_))) (fun z => h0 (Or.inl ⟨i, hi, z⟩))
    by_cases e : c = i
    · rw [e]; exact z
    · exact hs c (by omega)
end
end
section
/-! the relation -/
def pt_R (k W : Nat) (ms ca pe bc bs ec ep st : Nat → Int32) (Ls : Nat → List Nat) : Prop :=
  (1 ≤ W ∧ W ≤ 4) ∧ (∀ i, ∃ a, a ≤ k ∧ ms i = nI a) ∧ (∀ i, ∃ a, a ≤ k ∧ ca i = nI a) ∧ (∀ i, 64 * W ≤ i → ca i = 0 ∧ pe i = 0) ∧ (∀ i, ∃ p, p < 64 ∧ ep i = nI p) ∧ (∀ c, c < 16 → pt_ch (Ls c) c bc bs ec ∧ pt_mk (Ls c) c st)
/-- the same counts and entries; the batches' sizes on one side, their marks on the other, tell the same batches -/
def i_Rel (k : Nat) (u : SX) (v : SY) : Prop :=
  ∃ (W : Nat) (ms ca pe vi bc bs ec ep ed st : Nat → Int32) (Ls : Nat → List Nat), u = (nI W, ms, ca, pe, vi, bc, bs, ec, ep, ed) ∧ v = (nI W, ms, ca, pe, vi, ep, ed, st, ec) ∧ pt_R k W ms ca pe bc bs ec ep st Ls
theorem pt_bd_u {f : Nat → Int32} {k k' : Nat} (h : ∀ i, ∃ a, a ≤ k ∧ f i = nI a) (hk : k ≤ k') : ∀ i, ∃ a, a ≤ k' ∧ f i = nI a := by
  intro i
  obtain ⟨a, ha, e⟩ := h i
  exact ⟨a, by omega, e⟩
theorem pt_bd_p {f : Nat → Int32} {k q : Nat} (h : ∀ i, ∃ a, a ≤ k ∧ f i = nI a) : ∀ i, ∃ a, a ≤ k + 1 ∧ upd f q (f q + 1) i = nI a := by
  intro i
  by_cases e : i = q
  · obtain ⟨a, ha, z⟩ := h q
    rw [e, pk_us, z, nI_1]
    exact ⟨a + 1, by omega, rfl⟩
  · rw [pk_un e]
    exact pt_bd_u h (by omega) i
theorem pt_bd_m {f : Nat → Int32} {k q : Nat} (h : ∀ i, ∃ a, a ≤ k ∧ f i = nI a) (hn : ¬ f q = 0) : ∀ i, ∃ a, a ≤ k ∧ upd f q (f q - 1) i = nI a := by
  intro i
  by_cases e : i = q
  · obtain ⟨a, ha, z⟩ := h q
    obtain ⟨b, rfl⟩ : ∃ b, a = b + 1 := by
      refine ⟨a - 1, ?_⟩
      have : a ≠ 0 := fun t => hn (by rw [z, t]; rfl)
      omega
    rw [e, pk_us, z, nI_pred]
    exact ⟨b, by omega, rfl⟩
  · rw [pk_un e]
    exact h i
theorem pt_R_up {k k' W : Nat} {ms ca pe bc bs ec ep st : Nat → Int32} {Ls : Nat → List Nat} (hk : k ≤ k') (R : pt_R k W ms ca pe bc bs ec ep st Ls) : pt_R k' W ms ca pe bc bs ec ep st Ls :=
  ⟨R.1, pt_bd_u R.2.1 hk, pt_bd_u R.2.2.1 hk, R.2.2.2⟩
theorem i_up {k : Nat} {u : SX} {v : SY} (h : i_Rel k u v) : i_Rel (k + 5) u v := by
  obtain ⟨W, ms, ca, pe, vi, bc, bs, ec, ep, ed, st, Ls, e1, e2, R⟩ := h
  exact ⟨W, ms, ca, pe, vi, bc, bs, ec, ep, ed, st, Ls, e1, e2, pt_R_up (by omega) R⟩
/-! construction -/
def pt_i0 (x : Int32) : Nat → Nat → Int32
  | 0 => fun _ => 0
  | w + 1 => upd (pt_i0 x w) (64 * w) x
theorem pt_i0_v (x : Int32) : ∀ (w i : Nat), pt_i0 x w i = 0 ∨ pt_i0 x w i = x := by
  intro w
  induction w with
  | zero => intro i; exact Or.inl rfl
  | succ w ih =>
    intro i
    show upd (pt_i0 x w) (64 * w) x i = 0 ∨ upd (pt_i0 x w) (64 * w) x i = x
    by_cases e : i = 64 * w
    · rw [e, pk_us]; exact Or.inr rfl
    · rw [pk_un e]; exact ih i
theorem pt_i0_hi (x : Int32) : ∀ (w i : Nat), 64 * w ≤ i → pt_i0 x w i = 0 := by
  intro w
  induction w with
  | zero => intro i _; rfl
  | succ w ih =>
    intro i h
    show upd (pt_i0 x w) (64 * w) x i = 0
    rw [pk_un (by omega)]
    exact ih i (by omega)
theorem pt_x64 (w : Nat) : nI w * 64 = nI (64 * w) := by
  rw [show (64 : Int32) = nI 64 from rfl, pk_mul, Nat.mul_comm]
theorem px_initL {post : SX → Prop} {W : Nat} (hW : W ≤ 4) (h : post (nI W, fun _ => 0, pt_i0 1 W, fun _ => 0, pt_i0 (nI W) W, fun _ => 0, fun _ => 0, fun _ => 0, fun _ => 0, fun _ => 0)) :
    ∃ k, wX_init_107 post (nI W) k 0 (fun _ => 0) (fun _ => 0) (fun _ => 0) (fun _ => 0) (fun _ => 0) (fun _ => 0) (fun _ => 0) (fun _ => 0) (fun _ => 0) := by
  refine loop_0 (fun k i (s : (Nat → Int32) × (Nat → Int32)) => wX_init_107 post (nI W) k (nI i) (fun _ => 0) s.1 (fun _ => 0) s.2 (fun _ => 0) (fun _ => 0) (fun _ => 0) (fun _ => 0) (fun _ => 0)) (fun i s => s = (pt_i0 1 i, pt_i0 (nI W) i)) W (fun _ => 0, fun _ => 0) rfl ?_ ?_
  · rintro k s rfl
    exact pk_le W W (fun _ => h) (fun z => absurd z (by omega))
  · rintro k i s hi rfl hn
    refine pk_le W i (fun z => absurd z (by omega)) (fun _ => ?_)
    rw [pt_x64, nI_clamp (by omega)]
    have hv : vp_in (nI (64 * i)) 256 := vp_in_nI (by omega) (by omega)
    exact ⟨hv, nm_e ⟨hv, nm_e (nm_r (nI_1 i) (hn (_, _) rfl))⟩⟩
theorem py_initL {post : SY → Prop} {W : Nat} (hW : W ≤ 4) (h : post (nI W, fun _ => 0, pt_i0 1 W, fun _ => 0, pt_i0 (nI W) W, fun _ => 0, fun _ => 0, fun _ => 0, fun _ => 0)) :
    ∃ k, wY_init_97 post (nI W) k 0 (fun _ => 0) (fun _ => 0) (fun _ => 0) (fun _ => 0) (fun _ => 0) (fun _ => 0) (fun _ => 0) (fun _ => 0) := by
  refine loop_0 (fun k i (s : (Nat → Int32) × (Nat → Int32)) => wY_init_97 post (nI W) k (nI i) (fun _ => 0) s.1 (fun _ => 0) s.2 (fun _ => 0) (fun _ => 0) (fun _ => 0) (fun _ => 0)) (fun i s => s = (pt_i0 1 i, pt_i0 (nI W) i)) W (fun _ => 0, fun _ => 0) rfl ?_ ?_
  · rintro k s rfl
    exact pk_le W W (fun _ => h) (fun z => absurd z (by omega))
  · rintro k i s hi rfl hn
    refine pk_le W i (fun z => absurd z (by omega)) (fun _ => ?_)
    rw [pt_x64, nI_clamp (by omega)]
    have hv : vp_in (nI (64 * i)) 256 := vp_in_nI (by omega) (by omega)
    exact ⟨hv, nm_e ⟨hv, nm_e (nm_r (nI_1 i) (hn (_, _) rfl))⟩⟩
theorem pt_R_0 {W : Nat} (h1 : 1 ≤ W) (h4 : W ≤ 4) : pt_R 1 W (fun _ => 0) (pt_i0 1 W) (fun _ => 0) (fun _ => 0) (fun _ => 0) (fun _ => 0) (fun _ => 0) (fun _ => 0) (fun _ => []) := by
  refine ⟨⟨h1, h4⟩, fun _ => ⟨0, by omega, rfl⟩, fun i => ?_, fun i hi => ⟨pt_i0_hi 1 W i hi, rfl⟩, fun _ => ⟨0, by omega, rfl⟩, fun c hc => ⟨⟨fun a ha => absurd ha List.not_mem_nil, Nat.zero_le _, rfl, rfl, trivial⟩, fun j hj => absurd hj (Nat.not_lt_zero j)⟩⟩
  rcases pt_i0_v 1 W i with z | z
  · exact ⟨0, by omega, z⟩
  · exact ⟨1, by omega, z⟩
theorem pt_1of {x : Int32} (h1 : 1 ≤ x) (h4 : x ≤ 4) : ∃ W : Nat, 1 ≤ W ∧ W ≤ 4 ∧ x = nI W := by
  have h0 : ¬ x < 0 := Int32.not_lt.mpr (Int32.le_trans (by decide) h1)
  obtain ⟨j, hj, rfl⟩ := nI_of h0
  have a := (nI_leI (a := 1) (b := j) (by decide) hj).mp h1
  have b := (nI_leI (a := j) (b := 4) hj (by decide)).mp h4
  exact ⟨j, a, b, rfl⟩
theorem i_vc0 (k0 : Int32) : wpX_init (fun u => wpY_init (fun v => i_Rel 1 u v) k0) k0 := by
  have fin : ∀ W, 1 ≤ W → W ≤ 4 → i_Rel 1 (nI W, fun _ => 0, pt_i0 1 W, fun _ => 0, pt_i0 (nI W) W, fun _ => 0, fun _ => 0, fun _ => 0, fun _ => 0, fun _ => 0) (nI W, fun _ => 0, pt_i0 1 W, fun _ => 0, pt_i0 (nI W) W, fun _ => 0, fun _ => 0, fun _ => 0, fun _ => 0) :=
    fun W h1 h4 => ⟨W, _, _, _, _, _, _, _, _, _, _, _, rfl, rfl, pt_R_0 h1 h4⟩
  unfold wpX_init wpY_init wY_init_83
  by_cases h1 : 1 ≤ k0
  · refine br_t h1 ?_
    by_cases h4 : k0 ≤ 4
    · refine br_t h4 ?_
      obtain ⟨W, g1, g2, rfl⟩ := pt_1of h1 h4
      exact px_initL g2 (br_t h1 (br_t h4 (py_initL g2 (fin W g1 g2))))
    · exact br_f h4 (px_initL (W := 4) (by omega) (br_t h1 (br_f h4 (py_initL (W := 4) (by omega) (fin 4 (by omega) (by omega))))))
  · refine br_f h1 (px_initL (W := 1) (by omega) (br_f h1 (br_t (by decide) (py_initL (W := 1) (by omega) (fin 1 (by omega) (by omega))))))
end
section
/-! the owed statements, a method each -/
theorem i_vc_send {k : Nat} {u : SX} {v : SY} (I : i_Rel k u v) (hk : k + 5 ≤ 2561) (v1 : Int32) (v2 : Int32) (v3 : Int32) (v4 : Int32) : wpX_send (fun r u' => wpY_send (fun r' v' => r' = r ∧ i_Rel (k + 5) u' v') v v1 v2 v3 v4) u v1 v2 v3 v4 := by
  obtain ⟨W, ms, ca, pe, vi, bc, bs, ec, ep, ed, st, Ls, rfl, rfl, R⟩ := I
  have hW : W ≤ 4 := R.1.2
  have same : i_Rel (k + 5) (nI W, ms, ca, pe, vi, bc, bs, ec, ep, ed) (nI W, ms, ca, pe, vi, ep, ed, st, ec) := ⟨W, ms, ca, pe, vi, bc, bs, ec, ep, ed, st, Ls, rfl, rfl, pt_R_up (by omega) R⟩
  by_cases hok : pt_okW W v1 ∧ pt_ok v2 ∧ pt_ok v3 ∧ pt_ok v4
  · obtain ⟨⟨w, hw, rfl⟩, ⟨d, hd, rfl⟩, ⟨e, he, rfl⟩, ⟨r, hr, rfl⟩⟩ := hok
    have ht := pt_to_lt d
    refine px_send hW hw hd he hr (fun a => ?_) (fun n z => ?_) (fun n y x => ?_) (fun n y x => ?_)
    · exact py_send hW hw hd he hr (fun _ => ⟨rfl, same⟩) (fun n _ => absurd a n) (fun n _ _ => absurd a n) (fun n _ _ => absurd a n)
    · exact py_send hW hw hd he hr (fun a => absurd a n) (fun _ _ => ⟨rfl, same⟩) (fun _ y _ => absurd z (by omega)) (fun _ y _ => absurd z (by omega))
    · exact py_send hW hw hd he hr (fun a => absurd a n) (fun _ z => absurd z (by omega)) (fun _ _ _ => ⟨rfl, same⟩) (fun _ _ x' => absurd x (by omega))
    · refine py_send hW hw hd he hr (fun a => absurd a n) (fun _ z => absurd z (by omega)) (fun _ _ x' => absurd x (by omega)) (fun _ _ _ => ⟨rfl, ?_⟩)
      obtain ⟨R1, R2, R3, R4, R5, R6⟩ := R
      exact ⟨W, _, _, _, _, _, _, _, _, _, _, Ls, rfl, rfl, R1, pt_bd_u (pt_bd_p R2) (by omega), pt_bd_u R3 (by omega), fun i hi => ⟨(R4 i hi).1, by rw [pk_un (by omega)]; exact (R4 i hi).2⟩, R5, R6⟩
  · unfold wpX_send
    refine px_g4 hW (fun _ => ?_) (fun a b c d => absurd ⟨a, b, c, d⟩ hok)
    unfold wpY_send
    exact py_g4 hW (fun _ => ⟨rfl, same⟩) (fun a b c d => absurd ⟨a, b, c, d⟩ hok)
theorem i_vc_receive {k : Nat} {u : SX} {v : SY} (I : i_Rel k u v) (hk : k + 5 ≤ 2561) (v1 : Int32) (v2 : Int32) (v3 : Int32) (v4 : Int32) : wpX_receive (fun r u' => wpY_receive (fun r' v' => r' = r ∧ i_Rel (k + 5) u' v') v v1 v2 v3 v4) u v1 v2 v3 v4 := by
  obtain ⟨W, ms, ca, pe, vi, bc, bs, ec, ep, ed, st, Ls, rfl, rfl, R⟩ := I
  have hW : W ≤ 4 := R.1.2
  have same : i_Rel (k + 5) (nI W, ms, ca, pe, vi, bc, bs, ec, ep, ed) (nI W, ms, ca, pe, vi, ep, ed, st, ec) := ⟨W, ms, ca, pe, vi, bc, bs, ec, ep, ed, st, Ls, rfl, rfl, pt_R_up (by omega) R⟩
  by_cases hok : pt_okW W v1 ∧ pt_ok v2 ∧ pt_ok v3 ∧ pt_ok v4
  · obtain ⟨⟨w, hw, rfl⟩, ⟨d, hd, rfl⟩, ⟨e, he, rfl⟩, ⟨r, hr, rfl⟩⟩ := hok
    refine px_receive hW hw hd he hr (fun a => ?_) (fun n => ?_)
    · exact py_receive hW hw hd he hr (fun _ => ⟨rfl, same⟩) (fun n => absurd a n)
    · refine py_receive hW hw hd he hr (fun a => absurd a n) (fun _ => ⟨rfl, ?_⟩)
      obtain ⟨R1, R2, R3, R4, R5, R6⟩ := R
      exact ⟨W, _, _, _, _, _, _, _, _, _, _, Ls, rfl, rfl, R1, pt_bd_u (pt_bd_m R2 n) (by omega), pt_bd_u (pt_bd_p R3) (by omega), fun i hi => ⟨by rw [pk_un (by omega)]; exact (R4 i hi).1, (R4 i hi).2⟩, R5, R6⟩
  · unfold wpX_receive
    refine px_g4 hW (fun _ => ?_) (fun a b c d => absurd ⟨a, b, c, d⟩ hok)
    unfold wpY_receive
    exact py_g4 hW (fun _ => ⟨rfl, same⟩) (fun a b c d => absurd ⟨a, b, c, d⟩ hok)
theorem i_vc_drop {k : Nat} {u : SX} {v : SY} (I : i_Rel k u v) (hk : k + 5 ≤ 2561) (v1 : Int32) (v2 : Int32) (v3 : Int32) (v4 : Int32) : wpX_drop (fun r u' => wpY_drop (fun r' v' => r' = r ∧ i_Rel (k + 5) u' v') v v1 v2 v3 v4) u v1 v2 v3 v4 := by
  obtain ⟨W, ms, ca, pe, vi, bc, bs, ec, ep, ed, st, Ls, rfl, rfl, R⟩ := I
  have hW : W ≤ 4 := R.1.2
  have same : i_Rel (k + 5) (nI W, ms, ca, pe, vi, bc, bs, ec, ep, ed) (nI W, ms, ca, pe, vi, ep, ed, st, ec) := ⟨W, ms, ca, pe, vi, bc, bs, ec, ep, ed, st, Ls, rfl, rfl, pt_R_up (by omega) R⟩
  by_cases hok : pt_okW W v1 ∧ pt_ok v2 ∧ pt_ok v3 ∧ pt_ok v4
  · obtain ⟨⟨w, hw, rfl⟩, ⟨d, hd, rfl⟩, ⟨e, he, rfl⟩, ⟨r, hr, rfl⟩⟩ := hok
    refine px_drop hW hw hd he hr (fun a => ?_) (fun n x => ?_) (fun n x => ?_)
    · exact py_drop hW hw hd he hr (fun _ => ⟨rfl, same⟩) (fun n _ => absurd a n) (fun n _ => absurd a n)
    · exact py_drop hW hw hd he hr (fun a => absurd a n) (fun _ _ => ⟨rfl, same⟩) (fun _ x' => absurd x (by omega))
    · refine py_drop hW hw hd he hr (fun a => absurd a n) (fun _ x' => absurd x (by omega)) (fun _ _ => ⟨rfl, ?_⟩)
      obtain ⟨R1, R2, R3, R4, R5, R6⟩ := R
      exact ⟨W, _, _, _, _, _, _, _, _, _, _, Ls, rfl, rfl, R1, pt_bd_u R2 (by omega), pt_bd_u (pt_bd_m R3 n) (by omega), fun i hi => ⟨by rw [pk_un (by omega)]; exact (R4 i hi).1, by rw [pk_un (by omega)]; exact (R4 i hi).2⟩, R5, R6⟩
  · unfold wpX_drop
    refine px_g4 hW (fun _ => ?_) (fun a b c d => absurd ⟨a, b, c, d⟩ hok)
    unfold wpY_drop
    exact py_g4 hW (fun _ => ⟨rfl, same⟩) (fun a b c d => absurd ⟨a, b, c, d⟩ hok)
theorem i_vc_advanceInput {k : Nat} {u : SX} {v : SY} (I : i_Rel k u v) (hk : k + 5 ≤ 2561) (v1 : Int32) (v2 : Int32) : wpX_advanceInput (fun r u' => wpY_advanceInput (fun r' v' => r' = r ∧ i_Rel (k + 5) u' v') v v1 v2) u v1 v2 := by
  obtain ⟨W, ms, ca, pe, vi, bc, bs, ec, ep, ed, st, Ls, rfl, rfl, R⟩ := I
  have hW : W ≤ 4 := R.1.2
  have same : i_Rel (k + 5) (nI W, ms, ca, pe, vi, bc, bs, ec, ep, ed) (nI W, ms, ca, pe, vi, ep, ed, st, ec) := ⟨W, ms, ca, pe, vi, bc, bs, ec, ep, ed, st, Ls, rfl, rfl, pt_R_up (by omega) R⟩
  by_cases hok : pt_okW W v1 ∧ pt_ok v2
  · obtain ⟨⟨w, hw, rfl⟩, ⟨e, he, rfl⟩⟩ := hok
    refine px_adv hW hw he (fun a => ?_) (fun n z => ?_) (fun n y x => ?_) (fun n y x => ?_)
    · exact py_adv hW hw he (fun _ => ⟨rfl, same⟩) (fun n _ => absurd a n) (fun n _ _ => absurd a n) (fun n _ _ => absurd a n)
    · exact py_adv hW hw he (fun a => absurd a n) (fun _ _ => ⟨rfl, same⟩) (fun _ y _ => absurd z (by omega)) (fun _ y _ => absurd z (by omega))
    · exact py_adv hW hw he (fun a => absurd a n) (fun _ z => absurd z (by omega)) (fun _ _ _ => ⟨rfl, same⟩) (fun _ _ x' => absurd x (by omega))
    · refine py_adv hW hw he (fun a => absurd a n) (fun _ z => absurd z (by omega)) (fun _ _ x' => absurd x (by omega)) (fun _ _ _ => ⟨rfl, ?_⟩)
      obtain ⟨R1, R2, R3, R4, R5, R6⟩ := R
      exact ⟨W, _, _, _, _, _, _, _, _, _, _, Ls, rfl, rfl, R1, pt_bd_u R2 (by omega), pt_bd_u (pt_bd_p (pt_bd_m R3 n)) (by omega), fun i hi => ⟨by rw [pk_un (by omega), pk_un (by omega)]; exact (R4 i hi).1, by rw [pk_un (by omega), pk_un (by omega)]; exact (R4 i hi).2⟩, R5, R6⟩
  · unfold wpX_advanceInput
    refine px_g2 hW (fun _ => ?_) (fun a b => absurd ⟨a, b⟩ hok)
    unfold wpY_advanceInput
    exact py_g2 hW (fun _ => ⟨rfl, same⟩) (fun a b => absurd ⟨a, b⟩ hok)
theorem i_vc_broadcast {k : Nat} {u : SX} {v : SY} (I : i_Rel k u v) (hk : k + 5 ≤ 2561) (v1 : Int32) : wpX_broadcast (fun r u' => wpY_broadcast (fun r' v' => r' = r ∧ i_Rel (k + 5) u' v') v v1) u v1 := by
  obtain ⟨W, ms, ca, pe, vi, bc, bs, ec, ep, ed, st, Ls, rfl, rfl, R⟩ := I
  have hW : W ≤ 4 := R.1.2
  have same : i_Rel (k + 5) (nI W, ms, ca, pe, vi, bc, bs, ec, ep, ed) (nI W, ms, ca, pe, vi, ep, ed, st, ec) := ⟨W, ms, ca, pe, vi, bc, bs, ec, ep, ed, st, Ls, rfl, rfl, pt_R_up (by omega) R⟩
  by_cases hok : pt_okW W v1
  · obtain ⟨w, hw, rfl⟩ := hok
    have hx : ∀ r, r < W → ∃ l, pt_ch l (4 * w + r) bc bs ec := fun r hr => ⟨Ls (4 * w + r), (R.2.2.2.2.2 (4 * w + r) (by omega)).1⟩
    have hy : ∀ r, r < W → ∃ len, len ≤ 32 ∧ ec (4 * w + r) = nI len := fun r hr => ⟨pt_sum (Ls (4 * w + r)), (R.2.2.2.2.2 (4 * w + r) (by omega)).1.2.1, (R.2.2.2.2.2 (4 * w + r) (by omega)).1.2.2.2.1⟩
    refine px_broadcast hW hw rfl hx (fun a => ?_) (fun n z => ?_) (fun n z => ?_)
    · exact py_broadcast hW hw rfl hy (fun _ => ⟨rfl, same⟩) (fun n _ => absurd a (by omega)) (fun n _ => absurd a (by omega))
    · refine py_broadcast hW hw rfl hy (fun a => absurd a (by omega)) (fun _ _ => ⟨rfl, same⟩) (fun _ y => ?_)
      obtain ⟨r, hr, g⟩ := z
      exact absurd (y r hr) g
    · refine py_broadcast hW hw rfl hy (fun a => absurd a (by omega)) (fun _ y => ?_) (fun _ _ => ⟨rfl, ?_⟩)
      · obtain ⟨r, hr, g⟩ := y
        exact absurd (z r hr) g
      · obtain ⟨R1, R2, R3, R4, R5, R6⟩ := R
        have hle := pt_cnt_le pe (64 * w) 64
        have room : ∀ r, r < W → pt_sum (Ls (4 * w + r)) + pt_cnt pe (64 * w) 64 ≤ 32 := by
          intro r hr
          have h1 := (R6 (4 * w + r) (by omega)).1
          have h2 := z r hr
          rw [h1.2.2.2.1, pt_roomE h1.2.1 hle] at h2
          exact h2
        refine ⟨W, _, _, _, _, _, _, _, _, _, _, pt_bL w (pt_cnt pe (64 * w) 64) Ls W, rfl, rfl, R1, pt_bd_u R2 (by omega), pt_bd_u R3 (by omega), fun i hi => ⟨(R4 i hi).1, by rw [pt_clr_out (by omega)]; exact (R4 i hi).2⟩, pt_bep_in R5 W, fun c hc => ⟨?_, ?_⟩⟩
        · exact pt_bch (by omega) n (fun c hc => (R6 c hc).1) hW room c hc
        · exact pt_bmk (by omega) n rfl (fun c hc => (R6 c hc).1) (fun c hc => (R6 c hc).2) hW room c hc
  · unfold wpX_broadcast
    refine px_isWn hW hok (br_t rfl ?_)
    unfold wpY_broadcast
    exact py_okWc hW (fun t => absurd t hok) (fun _ => br_t rfl ⟨rfl, same⟩)
theorem i_vc_deliver {k : Nat} {u : SX} {v : SY} (I : i_Rel k u v) (hk : k + 5 ≤ 2561) (v1 : Int32) (v2 : Int32) : wpX_deliver (fun r u' => wpY_deliver (fun r' v' => r' = r ∧ i_Rel (k + 5) u' v') v v1 v2) u v1 v2 := by
  obtain ⟨W, ms, ca, pe, vi, bc, bs, ec, ep, ed, st, Ls, rfl, rfl, R⟩ := I
  have hW : W ≤ 4 := R.1.2
  have same : i_Rel (k + 5) (nI W, ms, ca, pe, vi, bc, bs, ec, ep, ed) (nI W, ms, ca, pe, vi, ep, ed, st, ec) := ⟨W, ms, ca, pe, vi, bc, bs, ec, ep, ed, st, Ls, rfl, rfl, pt_R_up (by omega) R⟩
  by_cases hok : pt_okW W v1 ∧ pt_okW W v2
  · obtain ⟨⟨s, hs, rfl⟩, ⟨r, hr, rfl⟩⟩ := hok
    obtain ⟨R1, R2, R3, R4, R5, R6⟩ := R
    have k0 := R6 (4 * s + r) (by omega)
    cases hL : Ls (4 * s + r) with
    | nil =>
      rw [hL] at k0
      exact px_deliver0 hW hs hr k0.1.2.2.1 (py_deliver0 hW hs hr k0.1.2.2.2.1 ⟨rfl, same⟩)
    | cons a l =>
      rw [hL] at k0
      obtain ⟨c0, m0⟩ := k0
      have hsum : a + pt_sum l ≤ 32 := c0.2.1
      have hlen : l.length ≤ pt_sum l := pt_len_sum (pt_all1_c c0.1).2
      refine px_deliver hW hs hr R5 c0 (py_deliver hW hs hr R5 c0.1 c0.2.1 c0.2.2.2.1 m0 ⟨rfl, ?_⟩)
      refine ⟨W, _, _, _, _, _, _, _, _, _, _, fun c => if c = 4 * s + r then l else Ls c, rfl, rfl, R1, pt_bd_u R2 (by omega), pt_bd_u R3 (by omega), R4, pt_sh_in R5 _, fun c hc => ?_⟩
      dsimp only
      by_cases e : c = 4 * s + r
      · rw [if_pos e, e]
        exact ⟨pt_ch_tail c0 pk_us pk_us (fun j hj => pt_sh_at hj), pt_mk_tail (pt_all1_c c0.1).1 m0 (fun j hj => pt_sh_at hj)⟩
      · rw [if_neg e]
        obtain ⟨x, y⟩ := R6 c hc
        have hxl := pt_ch_len x
        have hxs := x.2.1
        refine ⟨pt_ch_cong x (pk_un e) (pk_un e) (fun j hj => ?_), pt_mk_cong y (fun j hj => ?_)⟩
        · rcases Nat.lt_or_gt_of_ne e with q | q
          · exact pt_sh_lt (by omega)
          · exact pt_sh_ge (by omega)
        · rcases Nat.lt_or_gt_of_ne e with q | q
          · exact pt_sh_lt (by omega)
          · exact pt_sh_ge (by omega)
  · unfold wpX_deliver
    refine px_gWW hW (fun _ => ?_) (fun a b => absurd ⟨a, b⟩ hok)
    unfold wpY_deliver
    exact py_gWW hW (fun _ => ⟨rfl, same⟩) (fun a b => absurd ⟨a, b⟩ hok)
theorem i_vc_canReach {k : Nat} {u : SX} {v : SY} (I : i_Rel k u v) (hk : k + 5 ≤ 2561) (v1 : Int32) (v2 : Int32) (v3 : Int32) (v4 : Int32) : wpX_canReach (fun r => wpY_canReach (fun r' => r' = r ∧ i_Rel (k + 5) u v) v v1 v2 v3 v4) u v1 v2 v3 v4 := by
  obtain ⟨W, ms, ca, pe, vi, bc, bs, ec, ep, ed, st, Ls, rfl, rfl, R⟩ := I
  have hW : W ≤ 4 := R.1.2
  have same : i_Rel (k + 5) (nI W, ms, ca, pe, vi, bc, bs, ec, ep, ed) (nI W, ms, ca, pe, vi, ep, ed, st, ec) := ⟨W, ms, ca, pe, vi, bc, bs, ec, ep, ed, st, Ls, rfl, rfl, pt_R_up (by omega) R⟩
  by_cases hok : pt_okW W v1 ∧ pt_ok v2 ∧ pt_ok v3 ∧ pt_ok v4
  · obtain ⟨⟨w, hw, rfl⟩, ⟨d, hd, rfl⟩, ⟨e, he, rfl⟩, ⟨r, hr, rfl⟩⟩ := hok
    refine px_canReach hW hw hd he hr (fun a => ?_) (fun n => ?_)
    · refine py_canReach hW hw hd he hr (fun _ => ⟨rfl, same⟩) (fun n => ?_)
      obtain ⟨p, hp, g1, g2⟩ := a
      exact absurd g2 (n p hp g1)
    · refine py_canReach hW hw hd he hr (fun a => ?_) (fun _ => ⟨rfl, same⟩)
      obtain ⟨p, hp, g1, g2⟩ := a
      exact absurd g2 (n p hp g1)
  · unfold wpX_canReach
    refine px_g4 hW (fun _ => ?_) (fun a b c d => absurd ⟨a, b, c, d⟩ hok)
    unfold wpY_canReach
    exact py_g4 hW (fun _ => ⟨rfl, same⟩) (fun a b c d => absurd ⟨a, b, c, d⟩ hok)
theorem i_vc_couldArrive {k : Nat} {u : SX} {v : SY} (I : i_Rel k u v) (hk : k + 5 ≤ 2561) (v1 : Int32) (v2 : Int32) (v3 : Int32) : wpX_couldArrive (fun r => wpY_couldArrive (fun r' => r' = r ∧ i_Rel (k + 5) u v) v v1 v2 v3) u v1 v2 v3 := by
  obtain ⟨W, ms, ca, pe, vi, bc, bs, ec, ep, ed, st, Ls, rfl, rfl, R⟩ := I
  have hW : W ≤ 4 := R.1.2
  have same : i_Rel (k + 5) (nI W, ms, ca, pe, vi, bc, bs, ec, ep, ed) (nI W, ms, ca, pe, vi, ep, ed, st, ec) := ⟨W, ms, ca, pe, vi, bc, bs, ec, ep, ed, st, Ls, rfl, rfl, pt_R_up (by omega) R⟩
  by_cases hok : pt_ok v1 ∧ pt_ok v2 ∧ pt_ok v3
  · obtain ⟨⟨d, hd, rfl⟩, ⟨e, he, rfl⟩, ⟨r, hr, rfl⟩⟩ := hok
    have hR := R
    obtain ⟨R1, R2, R3, R4, R5, R6⟩ := R
    have hk' : k < 2 ^ 20 := by omega
    have ht : ∀ p, pt_occ ms ca p 4 = pt_occ ms ca p W := fun p => pt_occ_tail (fun i hi => (R4 i hi).1) hW
    refine px_couldArrive hW hd he hr hk' R2 R3 (fun a => ?_) (fun n => ?_)
    · refine py_couldArrive hd he hr hk' R2 R3 (fun _ => ⟨rfl, same⟩) (fun n => ?_)
      obtain ⟨p, hp, g1, g2⟩ := a
      exact absurd g2 (n p hp (by rw [ht p]; exact g1))
    · refine py_couldArrive hd he hr hk' R2 R3 (fun a => ?_) (fun _ => ⟨rfl, same⟩)
      obtain ⟨p, hp, g1, g2⟩ := a
      exact absurd g2 (n p hp (by rw [← ht p]; exact g1))
  · unfold wpX_couldArrive
    refine px_g3 (fun _ => ?_) (fun a b c => absurd ⟨a, b, c⟩ hok)
    unfold wpY_couldArrive
    exact py_g3 (fun _ => ⟨rfl, same⟩) (fun a b c => absurd ⟨a, b, c⟩ hok)
theorem i_vc_frontierSize {k : Nat} {u : SX} {v : SY} (I : i_Rel k u v) (hk : k + 5 ≤ 2561) (v1 : Int32) (v2 : Int32) : wpX_frontierSize (fun r => wpY_frontierSize (fun r' => r' = r ∧ i_Rel (k + 5) u v) v v1 v2) u v1 v2 := by
  obtain ⟨W, ms, ca, pe, vi, bc, bs, ec, ep, ed, st, Ls, rfl, rfl, R⟩ := I
  have hW : W ≤ 4 := R.1.2
  have same : i_Rel (k + 5) (nI W, ms, ca, pe, vi, bc, bs, ec, ep, ed) (nI W, ms, ca, pe, vi, ep, ed, st, ec) := ⟨W, ms, ca, pe, vi, bc, bs, ec, ep, ed, st, Ls, rfl, rfl, pt_R_up (by omega) R⟩
  by_cases hok : pt_okW W v1 ∧ pt_ok v2
  · obtain ⟨⟨w, hw, rfl⟩, ⟨e, he, rfl⟩⟩ := hok
    exact px_fsize hW hw he (py_fsize hW hw he ⟨rfl, same⟩)
  · unfold wpX_frontierSize
    refine px_g2 hW (fun _ => ?_) (fun a b => absurd ⟨a, b⟩ hok)
    unfold wpY_frontierSize
    exact py_g2 hW (fun _ => ⟨rfl, same⟩) (fun a b => absurd ⟨a, b⟩ hok)
theorem i_vc_frontierElement {k : Nat} {u : SX} {v : SY} (I : i_Rel k u v) (hk : k + 5 ≤ 2561) (v1 : Int32) (v2 : Int32) (v3 : Int32) : wpX_frontierElement (fun r => wpY_frontierElement (fun r' => r' = r ∧ i_Rel (k + 5) u v) v v1 v2 v3) u v1 v2 v3 := by
  obtain ⟨W, ms, ca, pe, vi, bc, bs, ec, ep, ed, st, Ls, rfl, rfl, R⟩ := I
  have hW : W ≤ 4 := R.1.2
  have same : i_Rel (k + 5) (nI W, ms, ca, pe, vi, bc, bs, ec, ep, ed) (nI W, ms, ca, pe, vi, ep, ed, st, ec) := ⟨W, ms, ca, pe, vi, bc, bs, ec, ep, ed, st, Ls, rfl, rfl, pt_R_up (by omega) R⟩
  by_cases hok : pt_okW W v1 ∧ pt_ok v2
  · obtain ⟨⟨w, hw, rfl⟩, ⟨e, he, rfl⟩⟩ := hok
    refine px_felem hW hw he ?_
    by_cases hix : 0 ≤ v3
    · exact py_felem hW hw he hix ⟨rfl, same⟩
    · exact py_felemN hW hw he hix ⟨(pt_el_neg hix 4 0 (by omega)).symm, same⟩
  · unfold wpX_frontierElement
    refine px_g2 hW (fun _ => ?_) (fun a b => absurd ⟨a, b⟩ hok)
    unfold wpY_frontierElement
    exact py_g2 hW (fun _ => ⟨rfl, same⟩) (fun a b => absurd ⟨a, b⟩ hok)
theorem i_vc_viewCount {k : Nat} {u : SX} {v : SY} (I : i_Rel k u v) (hk : k + 5 ≤ 2561) (v1 : Int32) (v2 : Int32) (v3 : Int32) (v4 : Int32) : wpX_viewCount (fun r => wpY_viewCount (fun r' => r' = r ∧ i_Rel (k + 5) u v) v v1 v2 v3 v4) u v1 v2 v3 v4 := by
  obtain ⟨W, ms, ca, pe, vi, bc, bs, ec, ep, ed, st, Ls, rfl, rfl, R⟩ := I
  have hW : W ≤ 4 := R.1.2
  have same : i_Rel (k + 5) (nI W, ms, ca, pe, vi, bc, bs, ec, ep, ed) (nI W, ms, ca, pe, vi, ep, ed, st, ec) := ⟨W, ms, ca, pe, vi, bc, bs, ec, ep, ed, st, Ls, rfl, rfl, pt_R_up (by omega) R⟩
  by_cases hok : pt_okW W v1 ∧ pt_ok v2 ∧ pt_ok v3 ∧ pt_ok v4
  · obtain ⟨⟨w, hw, rfl⟩, ⟨d, hd, rfl⟩, ⟨e, he, rfl⟩, ⟨r, hr, rfl⟩⟩ := hok
    exact px_viewC hW hw hd he hr (py_viewC hW hw hd he hr ⟨rfl, same⟩)
  · unfold wpX_viewCount
    refine px_g4 hW (fun _ => ?_) (fun a b c d => absurd ⟨a, b, c, d⟩ hok)
    unfold wpY_viewCount
    exact py_g4 hW (fun _ => ⟨rfl, same⟩) (fun a b c d => absurd ⟨a, b, c, d⟩ hok)
theorem i_vc_pendingCount {k : Nat} {u : SX} {v : SY} (I : i_Rel k u v) (hk : k + 5 ≤ 2561) (v1 : Int32) (v2 : Int32) (v3 : Int32) (v4 : Int32) : wpX_pendingCount (fun r => wpY_pendingCount (fun r' => r' = r ∧ i_Rel (k + 5) u v) v v1 v2 v3 v4) u v1 v2 v3 v4 := by
  obtain ⟨W, ms, ca, pe, vi, bc, bs, ec, ep, ed, st, Ls, rfl, rfl, R⟩ := I
  have hW : W ≤ 4 := R.1.2
  have same : i_Rel (k + 5) (nI W, ms, ca, pe, vi, bc, bs, ec, ep, ed) (nI W, ms, ca, pe, vi, ep, ed, st, ec) := ⟨W, ms, ca, pe, vi, bc, bs, ec, ep, ed, st, Ls, rfl, rfl, pt_R_up (by omega) R⟩
  by_cases hok : pt_okW W v1 ∧ pt_ok v2 ∧ pt_ok v3 ∧ pt_ok v4
  · obtain ⟨⟨w, hw, rfl⟩, ⟨d, hd, rfl⟩, ⟨e, he, rfl⟩, ⟨r, hr, rfl⟩⟩ := hok
    exact px_pendC hW hw hd he hr (py_pendC hW hw hd he hr ⟨rfl, same⟩)
  · unfold wpX_pendingCount
    refine px_g4 hW (fun _ => ?_) (fun a b c d => absurd ⟨a, b, c, d⟩ hok)
    unfold wpY_pendingCount
    exact py_g4 hW (fun _ => ⟨rfl, same⟩) (fun a b c d => absurd ⟨a, b, c, d⟩ hok)
theorem i_vc_messages {k : Nat} {u : SX} {v : SY} (I : i_Rel k u v) (hk : k + 5 ≤ 2561) (v1 : Int32) (v2 : Int32) (v3 : Int32) : wpX_messages (fun r => wpY_messages (fun r' => r' = r ∧ i_Rel (k + 5) u v) v v1 v2 v3) u v1 v2 v3 := by
  obtain ⟨W, ms, ca, pe, vi, bc, bs, ec, ep, ed, st, Ls, rfl, rfl, R⟩ := I
  have hW : W ≤ 4 := R.1.2
  have same : i_Rel (k + 5) (nI W, ms, ca, pe, vi, bc, bs, ec, ep, ed) (nI W, ms, ca, pe, vi, ep, ed, st, ec) := ⟨W, ms, ca, pe, vi, bc, bs, ec, ep, ed, st, Ls, rfl, rfl, pt_R_up (by omega) R⟩
  by_cases hok : pt_ok v1 ∧ pt_ok v2 ∧ pt_ok v3
  · obtain ⟨⟨d, hd, rfl⟩, ⟨e, he, rfl⟩, ⟨r, hr, rfl⟩⟩ := hok
    exact px_msgC hd he hr (py_msgC hd he hr ⟨rfl, same⟩)
  · unfold wpX_messages
    refine px_g3 (fun _ => ?_) (fun a b c => absurd ⟨a, b, c⟩ hok)
    unfold wpY_messages
    exact py_g3 (fun _ => ⟨rfl, same⟩) (fun a b c => absurd ⟨a, b, c⟩ hok)
theorem i_vc_capabilities {k : Nat} {u : SX} {v : SY} (I : i_Rel k u v) (hk : k + 5 ≤ 2561) (v1 : Int32) (v2 : Int32) (v3 : Int32) (v4 : Int32) : wpX_capabilities (fun r => wpY_capabilities (fun r' => r' = r ∧ i_Rel (k + 5) u v) v v1 v2 v3 v4) u v1 v2 v3 v4 := by
  obtain ⟨W, ms, ca, pe, vi, bc, bs, ec, ep, ed, st, Ls, rfl, rfl, R⟩ := I
  have hW : W ≤ 4 := R.1.2
  have same : i_Rel (k + 5) (nI W, ms, ca, pe, vi, bc, bs, ec, ep, ed) (nI W, ms, ca, pe, vi, ep, ed, st, ec) := ⟨W, ms, ca, pe, vi, bc, bs, ec, ep, ed, st, Ls, rfl, rfl, pt_R_up (by omega) R⟩
  by_cases hok : pt_okW W v1 ∧ pt_ok v2 ∧ pt_ok v3 ∧ pt_ok v4
  · obtain ⟨⟨w, hw, rfl⟩, ⟨d, hd, rfl⟩, ⟨e, he, rfl⟩, ⟨r, hr, rfl⟩⟩ := hok
    exact px_capC hW hw hd he hr (py_capC hW hw hd he hr ⟨rfl, same⟩)
  · unfold wpX_capabilities
    refine px_g4 hW (fun _ => ?_) (fun a b c d => absurd ⟨a, b, c, d⟩ hok)
    unfold wpY_capabilities
    exact py_g4 hW (fun _ => ⟨rfl, same⟩) (fun a b c d => absurd ⟨a, b, c, d⟩ hok)
theorem i_vc_queuedBatches {k : Nat} {u : SX} {v : SY} (I : i_Rel k u v) (hk : k + 5 ≤ 2561) (v1 : Int32) (v2 : Int32) : wpX_queuedBatches (fun r => wpY_queuedBatches (fun r' => r' = r ∧ i_Rel (k + 5) u v) v v1 v2) u v1 v2 := by
  obtain ⟨W, ms, ca, pe, vi, bc, bs, ec, ep, ed, st, Ls, rfl, rfl, R⟩ := I
  have hW : W ≤ 4 := R.1.2
  have same : i_Rel (k + 5) (nI W, ms, ca, pe, vi, bc, bs, ec, ep, ed) (nI W, ms, ca, pe, vi, ep, ed, st, ec) := ⟨W, ms, ca, pe, vi, bc, bs, ec, ep, ed, st, Ls, rfl, rfl, pt_R_up (by omega) R⟩
  by_cases hok : pt_okW W v1 ∧ pt_okW W v2
  · obtain ⟨⟨s, hs, rfl⟩, ⟨r, hr, rfl⟩⟩ := hok
    obtain ⟨x, y⟩ := R.2.2.2.2.2 (4 * s + r) (by omega)
    refine px_queued hW hs hr ?_
    exact py_queued hW hs hr x.1 x.2.1 x.2.2.2.1 y ⟨x.2.2.1.symm, same⟩
  · unfold wpX_queuedBatches
    refine px_gWW hW (fun _ => ?_) (fun a b => absurd ⟨a, b⟩ hok)
    unfold wpY_queuedBatches
    exact py_gWW hW (fun _ => ⟨rfl, same⟩) (fun a b => absurd ⟨a, b⟩ hok)
theorem i_vc_isQuiet {k : Nat} {u : SX} {v : SY} (I : i_Rel k u v) (hk : k + 5 ≤ 2561) : wpX_isQuiet (fun r => wpY_isQuiet (fun r' => r' = r ∧ i_Rel (k + 5) u v) v) u := by
  obtain ⟨W, ms, ca, pe, vi, bc, bs, ec, ep, ed, st, Ls, rfl, rfl, R⟩ := I
  have hW : W ≤ 4 := R.1.2
  have same : i_Rel (k + 5) (nI W, ms, ca, pe, vi, bc, bs, ec, ep, ed) (nI W, ms, ca, pe, vi, ep, ed, st, ec) := ⟨W, ms, ca, pe, vi, bc, bs, ec, ep, ed, st, Ls, rfl, rfl, pt_R_up (by omega) R⟩
  obtain ⟨R1, R2, R3, R4, R5, R6⟩ := R
  have pz : (∀ w, w < W → pt_cnt pe (64 * w) 64 = 0) → ∀ j, j < 256 → pe j = 0 := by
    intro h j hj
    rcases Nat.lt_or_ge j (64 * W) with z | z
    · have := pt_cnt_0 (h (j / 64) (by omega)) (j % 64) (by omega)
      rw [show 64 * (j / 64) + j % 64 = j by omega] at this
      exact this
    · exact (R4 j z).2
  have be : ∀ c, c < 16 → (bc c = 0 ↔ ec c = 0) := by
    intro c hc
    obtain ⟨x, _⟩ := R6 c hc
    have h1 := pt_len_sum x.1
    have h2 := x.2.1
    have h3 := x.2.2.1
    have h4 := x.2.2.2.1
    rw [h3, h4, ← nI_0, nI_eq (by omega) (by omega), nI_eq (by omega) (by omega)]
    constructor
    · intro z
      rw [List.eq_nil_of_length_eq_zero z]
      rfl
    · intro z
      omega
  refine px_quiet hW (fun a b => ?_) (fun a => ?_)
  · refine py_quiet (fun _ _ => ⟨rfl, same⟩) (fun n => ?_)
    rcases n with ⟨j, hj, g⟩ | ⟨c, hc, g⟩
    · exact absurd (pz a j hj) g
    · exact absurd ((be c hc).mp (b c hc)) g
  · refine py_quiet (fun n1 n2 => ?_) (fun _ => ⟨rfl, same⟩)
    rcases a with ⟨w, hw, g⟩ | ⟨c, hc, g⟩
    · exact absurd (pt_cnt_z (fun j hj => n1 _ (by omega))) g
    · exact absurd ((be c hc).mpr (n2 c hc)) g
end
