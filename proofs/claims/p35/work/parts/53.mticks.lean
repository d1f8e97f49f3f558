/-! the reference's ticks -/
theorem stp_lo {M : Nat → Int32} {c i : Nat} (h : i < 4) : stp M c i = M i := by
  unfold stp
  split <;> simp only [noT, stp3, setF_lo h]
theorem stp_hi {M : Nat → Int32} {c i : Nat} (hc : c < 4) (h : 88 ≤ i) : stp M c i = M i := by
  unfold stp
  split <;> simp only [noT, stp3, setF_hi hc (show 0 < 21 by decide) h, setF_hi hc (show 3 < 21 by decide) h, setF_hi hc (show 4 < 21 by decide) h, setF_hi hc (show 5 < 21 by decide) h, setF_hi hc (show 8 < 21 by decide) h]
theorem turn_lo {M : Nat → Int32} {n c i : Nat} (h : i < 4) : turn M n c i = M i := by
  unfold turn
  split
  · exact setF_lo h
  · split
    · exact setF_lo h
    · split
      · split
        · rw [stp_lo h]; exact setF_lo h
        · exact setF_lo h
      · rfl
theorem turn_hi {M : Nat → Int32} {n c i : Nat} (hc : c < 4) (h : 88 ≤ i) : turn M n c i = M i := by
  unfold turn
  split
  · exact setF_hi hc (by decide) h
  · split
    · exact setF_hi hc (by decide) h
    · split
      · split
        · rw [stp_hi hc h]; exact setF_hi hc (by decide) h
        · exact setF_hi hc (by decide) h
      · rfl
theorem tkC_lo {M : Nat → Int32} {n i : Nat} {p : Int32} (h : i < 4) (j : Nat) : tkC M n p j i = M i := by
  induction j with
  | zero => rfl
  | succ j ih =>
    unfold tkC
    split
    · rw [turn_lo h]; exact ih
    · exact ih
theorem tkC_hi {M : Nat → Int32} {n i : Nat} {p : Int32} (h : 88 ≤ i) (j : Nat) (hj : j ≤ 4) : tkC M n p j i = M i := by
  induction j with
  | zero => rfl
  | succ j ih =>
    unfold tkC
    split
    · rw [turn_hi (by omega) h]; exact ih (by omega)
    · exact ih (by omega)
theorem tkP_lo {M : Nat → Int32} {n i : Nat} (h : i < 4) (k : Nat) : tkP M n k i = M i := by
  induction k with
  | zero => rfl
  | succ k ih =>
    unfold tkP
    rw [tkC_lo h]; exact ih
theorem tkP_hi {M : Nat → Int32} {n i : Nat} (hn : n ≤ 4) (h : 88 ≤ i) (k : Nat) : tkP M n k i = M i := by
  induction k with
  | zero => rfl
  | succ k ih =>
    unfold tkP
    rw [tkC_hi h n hn]; exact ih
theorem tickM_lo {M : Nat → Int32} {n i : Nat} (h : i < 4) (h0 : 0 < i) : tickM M n i = M i := by
  unfold tickM
  rw [upd_ne (by omega), tkP_lo h]
theorem tickM_0 {M : Nat → Int32} {n : Nat} : tickM M n 0 = M 0 + 1 := by
  unfold tickM
  rw [upd_eq, tkP_lo (by decide)]
theorem tickM_hi {M : Nat → Int32} {n i : Nat} (hn : n ≤ 4) (h : 88 ≤ i) : tickM M n i = M i := by
  unfold tickM
  rw [upd_ne (by omega), tkP_hi hn h]
/-! sets of the reference -/
def cnf (M : Nat → Int32) (n z : Nat) : Bool := decide (¬ (msk (fun c => occ M c z) n &&& (msk (fun c => occ M c z) n - (1 : Int32))) = (0 : Int32))
