/-! the reference's ticks -/
theorem stp_lo {M : Nat → Int32} {c i : Nat} (h : i < 4) : stp M c i = M i := by
  unfold stp
  split <;> simp only [noT, stp3, setF_lo h]
theorem stp_hi {M : Nat → Int32} {c i : Nat} (hc : c < 4) (h : 88 ≤ i) : stp M c i = M i := by
  unfold stp
  split <;> simp only [noT, stp3, setF_hi hc (show 0 < 21 by decide) h, setF_hi hc (show 3 < 21 by decide) h, setF_hi hc (show 4 < 21 by decide) h, setF_hi hc (show 5 < 21 by decide) h, setF_hi hc (show 8 < 21 by decide) h]
theorem turn_lo {M : Nat → Int32} {n c i : Nat} (h : i < 4) : turn M n c i = M i := by
  unfold turn
  split
  · exact setF_lo h
  · split
    · exact setF_lo h
    · split
      · split
        · rw [stp_lo h]; exact setF_lo h
        · exact setF_lo h
      · rfl
theorem turn_hi {M : Nat → Int32} {n c i : Nat} (hc : c < 4) (h : 88 ≤ i) : turn M n c i = M i := by
  unfold turn
  split
  · exact setF_hi hc (by decide) h
  · split
    · exact setF_hi hc (by decide) h
    · split
      · split
        · rw [stp_hi hc h]; exact setF_hi hc (by decide) h
        · exact setF_hi hc (by decide) h
      · rfl
theorem tkC_lo {M : Nat → Int32} {n i : Nat} {p : Int32} (h : i < 4) (j : Nat) : tkC M n p j i = M i := by
  induction j with
  | zero => rfl
  | succ j ih =>
    unfold tkC
    split
    · rw [turn_lo h]; exact ih
    · exact ih
theorem tkC_hi {M : Nat → Int32} {n i : Nat} {p : Int32} (h : 88 ≤ i) (j : Nat) (hj : j ≤ 4) : tkC M n p j i = M i := by
  induction j with
  | zero => rfl
  | succ j ih =>
    unfold tkC
    split
    · rw [turn_hi (by omega) h]; exact ih (by omega)
    · exact ih (by omega)
theorem tkP_lo {M : Nat → Int32} {n i : Nat} (h : i < 4) (k : Nat) : tkP M n k i = M i := by
  induction k with
  | zero => rfl
  | succ k ih =>
    unfold tkP
    rw [tkC_lo h]; exact ih
theorem tkP_hi {M : Nat → Int32} {n i : Nat} (hn : n ≤ 4) (h : 88 ≤ i) (k : Nat) : tkP M n k i = M i := by
  induction k with
  | zero => rfl
  | succ k ih =>
    unfold tkP
    rw [tkC_hi h n hn]; exact ih
theorem tickM_lo {M : Nat → Int32} {n i : Nat} (h : i < 4) (h0 : 0 < i) : tickM M n i = M i := by
  unfold tickM
  rw [upd_ne (by omega), tkP_lo h]
theorem tickM_0 {M : Nat → Int32} {n : Nat} : tickM M n 0 = M 0 + 1 := by
  unfold tickM
  rw [upd_eq, tkP_lo (by decide)]
theorem tickM_hi {M : Nat → Int32} {n i : Nat} (hn : n ≤ 4) (h : 88 ≤ i) : tickM M n i = M i := by
  unfold tickM
  rw [upd_ne (by omega), tkP_hi hn h]
theorem ticks_in {M : Nat → Int32} {fu n : Nat} (hfu : 6 < fu) (hn : n ≤ 4) (h2 : M 2 = nI n) (p : Int32) {k : Nat} (hk : n < k) : lp (fX4_ticks_L9 fu p) k (M, (0 : Int32)) = some (.inl (tkC M n p n, p + (-1 : Int32))) := by
  refine lp_go (body := fX4_ticks_L9 fu p) (fun j => (tkC M n p j, nI j)) n _ hk ?_ ?_
  · intro j hj
    have hj4 : j < 4 := by omega
    have hm : tkC M n p j 2 = nI n := by rw [tkC_lo (by decide)]; exact h2
    unfold fX4_ticks_L9
    simp only [rdm2, hm, Option.bind_some, if_neg (q_nle hj (show n < 2 ^ 31 by omega)), of2 hj4, turn_e hj4 hfu hn hm, nI_1]
    simp only [tkC]
    split <;> rfl
  · have hm : tkC M n p n 2 = nI n := by rw [tkC_lo (by decide)]; exact h2
    unfold fX4_ticks_L9
    simp only [rdm2, hm, Option.bind_some, if_pos (q_le (Nat.le_refl n) (show n < 2 ^ 31 by omega))]
theorem ticks_out {M : Nat → Int32} {fu n : Nat} (hfu : 12 < fu) (hn : n ≤ 4) (h2 : M 2 = nI n) : ∀ (m : Nat), m ≤ 10 → ∀ k : Nat, m < k → lp (fX4_ticks_L3 fu) k (tkP M n (10 - m), nI m - 1) = some (tickM M n) := by
  intro m
  induction m with
  | zero =>
    intro _ k hk
    obtain ⟨k, rfl⟩ : ∃ q, k = q + 1 := ⟨k - 1, by omega⟩
    refine lp_inr ?_
    unfold fX4_ticks_L3
    have h0 : nI 0 - 1 < (0 : Int32) := by decide
    simp only [if_pos h0, rdm0, wrm0, Option.bind_some]
    rfl
  | succ m ih =>
    intro hm k hk
    obtain ⟨k, rfl⟩ : ∃ q, k = q + 1 := ⟨k - 1, by omega⟩
    have hp : tkP M n (10 - (m + 1)) 2 = nI n := by rw [tkP_lo (by decide)]; exact h2
    have hb : fX4_ticks_L3 fu (tkP M n (10 - (m + 1)), nI (m + 1) - 1) = some (.inl (tkP M n (10 - m), nI m - 1)) := by
      unfold fX4_ticks_L3
      simp only [nI_pred, if_neg (show ¬ nI m < (0 : Int32) from nI_pos (by omega))]
      rw [ticks_in (by omega) hn hp (nI m) (by omega), q_m1]
      have e : 10 - m = (10 - (m + 1)) + 1 := by omega
      rw [e]
      have e2 : 9 - (10 - (m + 1)) = m := by omega
      simp only [tkP, e2]
    rw [lp_inl hb]
    exact ih (by omega) k (by omega)
theorem ticks_e {M : Nat → Int32} {fu n : Nat} (hfu : 12 < fu) (hn : n ≤ 4) (h2 : M 2 = nI n) : fX4_ticks fu M = some (tickM M n) := ticks_out hfu hn h2 10 (Nat.le_refl _) fu (by omega)
/-! sets of the reference -/
theorem occupiers_e {M : Nat → Int32} {fu n z : Nat} (hfu : 12 < fu) (hn : n ≤ 4) (h2 : M 2 = nI n) (hz : z < 6) : fX4_occupiers fu M (nI z) = some (msk (fun c => occ M c z) n) := by
  refine lp_go (body := fX4_occupiers_L4 M (nI z)) (fun j => (msk (fun c => occ M c z) j, nI j)) n _ (by omega) ?_ ?_
  · intro j hj
    unfold fX4_occupiers_L4
    simp only [rdm2, h2, Option.bind_some, if_neg (q_nle hj (show n < 2 ^ 31 by omega)), occupies_e (show j < 4 by omega) hz, nI_1, msk_step _ j (show j < 6 by omega), Int32.or_zero]
    split <;> rfl
  · unfold fX4_occupiers_L4
    simp only [rdm2, h2, Option.bind_some, if_pos (q_le (Nat.le_refl n) (show n < 2 ^ 31 by omega))]
def cnf (M : Nat → Int32) (n z : Nat) : Bool := decide (¬ (msk (fun c => occ M c z) n &&& (msk (fun c => occ M c z) n - (1 : Int32))) = (0 : Int32))
theorem isConflict_e {M : Nat → Int32} {fu n z : Nat} (hfu : 12 < fu) (hn : n ≤ 4) (h2 : M 2 = nI n) (hz : z < 6) : fX4_isConflict fu M (nI z) = some (cnf M n z) := by
  unfold fX4_isConflict cnf
  simp only [occupiers_e hfu hn h2 hz, Option.bind_some]
  split <;> rename_i h <;> simp [h]
theorem clashes_e {M : Nat → Int32} {fu n : Nat} (hfu : 12 < fu) (hn : n ≤ 4) (h2 : M 2 = nI n) : fX4_clashes fu M = some (msk (cnf M n) 6) := by
  refine lp_go (body := fX4_clashes_L4 fu M) (fun j => (msk (cnf M n) j, nI j)) 6 _ (by omega) ?_ ?_
  · intro j hj
    unfold fX4_clashes_L4
    simp only [Option.bind_some, if_neg (show ¬ (6 : Int32) ≤ nI j from q_nle (a := 6) hj (by decide)), isConflict_e hfu hn h2 hj, nI_1, msk_step _ j hj, Int32.or_zero]
    split <;> rfl
  · unfold fX4_clashes_L4
    simp only [if_pos (show (6 : Int32) ≤ nI 6 from q_le (a := 6) (by decide) (by decide))]
theorem zonesOf_e {M : Nat → Int32} {fu c : Nat} (hfu : 12 < fu) (hc : c < 4) : fX4_zonesOf fu M (nI c) = some (msk (occ M c) 6) := by
  refine lp_go (body := fX4_zonesOf_L4 M (nI c)) (fun j => (msk (occ M c) j, nI j)) 6 _ (by omega) ?_ ?_
  · intro j hj
    unfold fX4_zonesOf_L4
    simp only [Option.bind_some, if_neg (show ¬ (6 : Int32) ≤ nI j from q_nle (a := 6) hj (by decide)), occupies_e hc hj, nI_1, msk_step _ j hj, Int32.or_zero]
    split <;> rfl
  · unfold fX4_zonesOf_L4
    simp only [if_pos (show (6 : Int32) ≤ nI 6 from q_le (a := 6) (by decide) (by decide))]
theorem targets_e {M : Nat → Int32} {fu n : Nat} (hfu : 12 < fu) (hn : n ≤ 4) (h2 : M 2 = nI n) : fX4_targets fu M = some (nI (cnt (hasT M) n)) := by
  refine lp_go (body := fX4_targets_L4 M) (fun j => (nI (cnt (hasT M) j), nI j)) n _ (by omega) ?_ ?_
  · intro j hj
    unfold fX4_targets_L4
    simp only [rdm2, h2, Option.bind_some, if_neg (q_nle hj (show n < 2 ^ 31 by omega)), hasTarget_e (show j < 4 by omega), nI_1, cnt]
    split
    · rfl
    · have : nI (cnt (hasT M) j) + (0 : Int32) = nI (cnt (hasT M) j) := by
        show nI _ + nI 0 = _
        rw [nI_add, Nat.add_zero]
      rw [this]
  · unfold fX4_targets_L4
    simp only [rdm2, h2, Option.bind_some, if_pos (q_le (Nat.le_refl n) (show n < 2 ^ 31 by omega))]
