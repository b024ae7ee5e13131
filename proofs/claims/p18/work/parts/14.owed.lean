/-! what is owed -/
theorem pl_steps (L : Nat) (hL : L ≤ 260) : (Int32.ofNat L - 1 + 3) / 4 = nI ((L + 2) / 4) := by
  have e : (Int32.ofNat L - 1 + 3 : Int32) = nI (L + 2) := by
    show nI L - 1 + 3 = nI (L + 2)
    rw [Int32.sub_eq_add_neg, Int32.add_assoc, show (-1 + 3 : Int32) = nI 2 from rfl, nI_add]
  rw [e]
  exact pk_div (d := 4) (by omega) (by decide) (by decide)
theorem i_vc (xs : Nat → Int32) (L : Nat) (hL : L ≤ 260) : wpL_law (fun r => r = 1) L xs := by
  unfold wpL_law
  refine pl_cell (b := 0) hL (by omega) (fun v => ?_)
  obtain ⟨a, ha, ea⟩ := pl_and3 v
  refine nm_r (show (v &&& 3) + 1 = nI (a + 1) from by rw [ea, nI_1]) ⟨9, 2400, by omega, by omega, ?_⟩
  refine pl_init (by omega) (by omega) ?_
  refine ⟨pt_n4, nm_r (pl_steps L hL) (br_t (nI_pos' (by omega)) ?_)⟩
  exact pl_main hL (by omega) rfl (pl_J0 (by omega) (by omega))
