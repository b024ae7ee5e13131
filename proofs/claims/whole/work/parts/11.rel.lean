/-! the relation -/
def pt_R (k W : Nat) (ms ca pe bc bs ec ep st : Nat → Int32) (Ls : Nat → List Nat) : Prop :=
  (1 ≤ W ∧ W ≤ 4) ∧ (∀ i, ∃ a, a ≤ k ∧ ms i = nI a) ∧ (∀ i, ∃ a, a ≤ k ∧ ca i = nI a) ∧ (∀ i, 64 * W ≤ i → ca i = 0 ∧ pe i = 0) ∧ (∀ i, ∃ p, p < 64 ∧ ep i = nI p) ∧ (∀ c, c < 16 → pt_ch (Ls c) c bc bs ec ∧ pt_mk (Ls c) c st)
/-- the same counts and entries; the batches' sizes on one side, their marks on the other, tell the same batches -/
def i_Rel (k : Nat) (u : SX) (v : SY) : Prop :=
  ∃ (W : Nat) (ms ca pe vi bc bs ec ep ed st : Nat → Int32) (Ls : Nat → List Nat), u = (nI W, ms, ca, pe, vi, bc, bs, ec, ep, ed) ∧ v = (nI W, ms, ca, pe, vi, ep, ed, st, ec) ∧ pt_R k W ms ca pe bc bs ec ep st Ls
theorem pt_bd_u {f : Nat → Int32} {k k' : Nat} (h : ∀ i, ∃ a, a ≤ k ∧ f i = nI a) (hk : k ≤ k') : ∀ i, ∃ a, a ≤ k' ∧ f i = nI a := by
  intro i
  obtain ⟨a, ha, e⟩ := h i
  exact ⟨a, by omega, e⟩
theorem pt_bd_p {f : Nat → Int32} {k q : Nat} (h : ∀ i, ∃ a, a ≤ k ∧ f i = nI a) : ∀ i, ∃ a, a ≤ k + 1 ∧ upd f q (f q + 1) i = nI a := by
  intro i
  by_cases e : i = q
  · obtain ⟨a, ha, z⟩ := h q
    rw [e, pk_us, z, nI_1]
    exact ⟨a + 1, by omega, rfl⟩
  · rw [pk_un e]
    exact pt_bd_u h (by omega) i
theorem pt_bd_m {f : Nat → Int32} {k q : Nat} (h : ∀ i, ∃ a, a ≤ k ∧ f i = nI a) (hn : ¬ f q = 0) : ∀ i, ∃ a, a ≤ k ∧ upd f q (f q - 1) i = nI a := by
  intro i
  by_cases e : i = q
  · obtain ⟨a, ha, z⟩ := h q
    obtain ⟨b, rfl⟩ : ∃ b, a = b + 1 := by
      refine ⟨a - 1, ?_⟩
      have : a ≠ 0 := fun t => hn (by rw [z, t]; rfl)
      omega
    rw [e, pk_us, z, nI_pred]
    exact ⟨b, by omega, rfl⟩
  · rw [pk_un e]
    exact h i
theorem pt_R_up {k k' W : Nat} {ms ca pe bc bs ec ep st : Nat → Int32} {Ls : Nat → List Nat} (hk : k ≤ k') (R : pt_R k W ms ca pe bc bs ec ep st Ls) : pt_R k' W ms ca pe bc bs ec ep st Ls :=
  ⟨R.1, pt_bd_u R.2.1 hk, pt_bd_u R.2.2.1 hk, R.2.2.2⟩
theorem i_up {k : Nat} {u : SX} {v : SY} (h : i_Rel k u v) : i_Rel (k + 5) u v := by
  obtain ⟨W, ms, ca, pe, vi, bc, bs, ec, ep, ed, st, Ls, e1, e2, R⟩ := h
  exact ⟨W, ms, ca, pe, vi, bc, bs, ec, ep, ed, st, Ls, e1, e2, pt_R_up (by omega) R⟩
/-! construction -/
def pt_i0 (x : Int32) : Nat → Nat → Int32
  | 0 => fun _ => 0
  | w + 1 => upd (pt_i0 x w) (64 * w) x
theorem pt_i0_v (x : Int32) : ∀ (w i : Nat), pt_i0 x w i = 0 ∨ pt_i0 x w i = x := by
  intro w
  induction w with
  | zero => intro i; exact Or.inl rfl
  | succ w ih =>
    intro i
    show upd (pt_i0 x w) (64 * w) x i = 0 ∨ upd (pt_i0 x w) (64 * w) x i = x
    by_cases e : i = 64 * w
    · rw [e, pk_us]; exact Or.inr rfl
    · rw [pk_un e]; exact ih i
theorem pt_i0_hi (x : Int32) : ∀ (w i : Nat), 64 * w ≤ i → pt_i0 x w i = 0 := by
  intro w
  induction w with
  | zero => intro i _; rfl
  | succ w ih =>
    intro i h
    show upd (pt_i0 x w) (64 * w) x i = 0
    rw [pk_un (by omega)]
    exact ih i (by omega)
theorem pt_x64 (w : Nat) : nI w * 64 = nI (64 * w) := by
  rw [show (64 : Int32) = nI 64 from rfl, pk_mul, Nat.mul_comm]
theorem px_initL {post : SX → Prop} {W : Nat} (hW : W ≤ 4) (h : post (nI W, fun _ => 0, pt_i0 1 W, fun _ => 0, pt_i0 (nI W) W, fun _ => 0, fun _ => 0, fun _ => 0, fun _ => 0, fun _ => 0)) :
    ∃ k, wX_init_107 post (nI W) k 0 (fun _ => 0) (fun _ => 0) (fun _ => 0) (fun _ => 0) (fun _ => 0) (fun _ => 0) (fun _ => 0) (fun _ => 0) (fun _ => 0) := by
  refine loop_0 (fun k i (s : (Nat → Int32) × (Nat → Int32)) => wX_init_107 post (nI W) k (nI i) (fun _ => 0) s.1 (fun _ => 0) s.2 (fun _ => 0) (fun _ => 0) (fun _ => 0) (fun _ => 0) (fun _ => 0)) (fun i s => s = (pt_i0 1 i, pt_i0 (nI W) i)) W (fun _ => 0, fun _ => 0) rfl ?_ ?_
  · rintro k s rfl
    exact pk_le W W (fun _ => h) (fun z => absurd z (by omega))
  · rintro k i s hi rfl hn
    refine pk_le W i (fun z => absurd z (by omega)) (fun _ => ?_)
    rw [pt_x64, nI_clamp (by omega)]
    have hv : vp_in (nI (64 * i)) 256 := vp_in_nI (by omega) (by omega)
    exact ⟨hv, nm_e ⟨hv, nm_e (nm_r (nI_1 i) (hn (_, _) rfl))⟩⟩
theorem py_initL {post : SY → Prop} {W : Nat} (hW : W ≤ 4) (h : post (nI W, fun _ => 0, pt_i0 1 W, fun _ => 0, pt_i0 (nI W) W, fun _ => 0, fun _ => 0, fun _ => 0, fun _ => 0)) :
    ∃ k, wY_init_97 post (nI W) k 0 (fun _ => 0) (fun _ => 0) (fun _ => 0) (fun _ => 0) (fun _ => 0) (fun _ => 0) (fun _ => 0) (fun _ => 0) := by
  refine loop_0 (fun k i (s : (Nat → Int32) × (Nat → Int32)) => wY_init_97 post (nI W) k (nI i) (fun _ => 0) s.1 (fun _ => 0) s.2 (fun _ => 0) (fun _ => 0) (fun _ => 0) (fun _ => 0)) (fun i s => s = (pt_i0 1 i, pt_i0 (nI W) i)) W (fun _ => 0, fun _ => 0) rfl ?_ ?_
  · rintro k s rfl
    exact pk_le W W (fun _ => h) (fun z => absurd z (by omega))
  · rintro k i s hi rfl hn
    refine pk_le W i (fun z => absurd z (by omega)) (fun _ => ?_)
    rw [pt_x64, nI_clamp (by omega)]
    have hv : vp_in (nI (64 * i)) 256 := vp_in_nI (by omega) (by omega)
    exact ⟨hv, nm_e ⟨hv, nm_e (nm_r (nI_1 i) (hn (_, _) rfl))⟩⟩
theorem pt_R_0 {W : Nat} (h1 : 1 ≤ W) (h4 : W ≤ 4) : pt_R 1 W (fun _ => 0) (pt_i0 1 W) (fun _ => 0) (fun _ => 0) (fun _ => 0) (fun _ => 0) (fun _ => 0) (fun _ => 0) (fun _ => []) := by
  refine ⟨⟨h1, h4⟩, fun _ => ⟨0, by omega, rfl⟩, fun i => ?_, fun i hi => ⟨pt_i0_hi 1 W i hi, rfl⟩, fun _ => ⟨0, by omega, rfl⟩, fun c hc => ⟨⟨fun a ha => absurd ha List.not_mem_nil, Nat.zero_le _, rfl, rfl, trivial⟩, fun j hj => absurd hj (Nat.not_lt_zero j)⟩⟩
  rcases pt_i0_v 1 W i with z | z
  · exact ⟨0, by omega, z⟩
  · exact ⟨1, by omega, z⟩
theorem pt_1of {x : Int32} (h1 : 1 ≤ x) (h4 : x ≤ 4) : ∃ W : Nat, 1 ≤ W ∧ W ≤ 4 ∧ x = nI W := by
  have h0 : ¬ x < 0 := Int32.not_lt.mpr (Int32.le_trans (by decide) h1)
  obtain ⟨j, hj, rfl⟩ := nI_of h0
  have a := (nI_leI (a := 1) (b := j) (by decide) hj).mp h1
  have b := (nI_leI (a := j) (b := 4) hj (by decide)).mp h4
  exact ⟨j, a, b, rfl⟩
theorem i_vc0 (k0 : Int32) : wpX_init (fun u => wpY_init (fun v => i_Rel 1 u v) k0) k0 := by
  have fin : ∀ W, 1 ≤ W → W ≤ 4 → i_Rel 1 (nI W, fun _ => 0, pt_i0 1 W, fun _ => 0, pt_i0 (nI W) W, fun _ => 0, fun _ => 0, fun _ => 0, fun _ => 0, fun _ => 0) (nI W, fun _ => 0, pt_i0 1 W, fun _ => 0, pt_i0 (nI W) W, fun _ => 0, fun _ => 0, fun _ => 0, fun _ => 0) :=
    fun W h1 h4 => ⟨W, _, _, _, _, _, _, _, _, _, _, _, rfl, rfl, pt_R_0 h1 h4⟩
  unfold wpX_init wpY_init wY_init_83
  by_cases h1 : 1 ≤ k0
  · refine br_t h1 ?_
    by_cases h4 : k0 ≤ 4
    · refine br_t h4 ?_
      obtain ⟨W, g1, g2, rfl⟩ := pt_1of h1 h4
      exact px_initL g2 (br_t h1 (br_t h4 (py_initL g2 (fin W g1 g2))))
    · exact br_f h4 (px_initL (W := 4) (by omega) (br_t h1 (br_f h4 (py_initL (W := 4) (by omega) (fin 4 (by omega) (by omega))))))
  · refine br_f h1 (px_initL (W := 1) (by omega) (br_f h1 (br_t (by decide) (py_initL (W := 1) (by omega) (fin 1 (by omega) (by omega))))))
