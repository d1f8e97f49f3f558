/-! the calls that are recorded: both sides answer alike and keep what holds -/
theorem WF.at {M M' : Nat → Int32} {n c : Nat} (h : WF M n) (h1 : M' 1 = M 1) (h3 : M' 3 = M 3) (ho : ∀ c', c' ≠ c → ∀ k, k < 21 → F M' c' k = F M c' k) (hc : c < n → WFC M' c) : WF M' n := by
  refine h.lo h1 h3 (fun c' hc' => ?_)
  by_cases e : c' = c
  · subst e; exact hc hc'
  · exact (h.2.2 c' hc').congr (ho c' e 0 (by decide)) (ho c' e 3 (by decide)) (ho c' e 4 (by decide)) (ho c' e 7 (by decide))
theorem WF.setO {M : Nat → Int32} {n c k : Nat} {v : Int32} (h : WF M n) (hk : k < 21) (h0 : k ≠ 0) (h3 : k ≠ 3) (h4 : k ≠ 4) (h7 : k ≠ 7) : WF (setF M c k v) n := by
  refine h.at (c := c) (setF_lo (by decide)) (setF_lo (by decide)) (fun c' e k' hk' => F_nc e hk hk') (fun hc => ?_)
  exact (h.2.2 c hc).congr (F_nk (Ne.symm h0)) (F_nk (Ne.symm h3)) (F_nk (Ne.symm h4)) (F_nk (Ne.symm h7))
theorem WF.noT {M : Nat → Int32} {n c : Nat} (h : WF M n) (hc : c < n) : WF (noT M c) n := by
  refine h.at (c := c) ?_ ?_ (fun c' e k' hk' => ?_) (fun _ => (h.2.2 c hc).none)
  · show setF (setF M c 3 (-100)) c 4 0 1 = M 1
    rw [setF_lo (by decide), setF_lo (by decide)]
  · show setF (setF M c 3 (-100)) c 4 0 3 = M 3
    rw [setF_lo (by decide), setF_lo (by decide)]
  · show F (setF (setF M c 3 (-100)) c 4 0) c' k' = F M c' k'
    rw [F_nc e (by decide) hk', F_nc e (by decide) hk']
theorem noT_hi {M : Nat → Int32} {c i : Nat} (hc : c < 4) (h : 88 ≤ i) : noT M c i = M i := by
  unfold noT
  rw [setF_hi hc (by decide) h, setF_hi hc (by decide) h]
theorem if_in {α : Type} {x a b : Int32} {A E : α} : (if x < a then E else if b < x then E else A) = (if decide (a.toInt ≤ x.toInt ∧ x.toInt ≤ b.toInt) = true then A else E) := by
  by_cases h1 : x < a
  · have := Int32.lt_iff_toInt_lt.mp h1
    rw [if_pos h1, if_neg (by rw [decide_eq_true_eq]; omega)]
  · have h1' : ¬ x.toInt < a.toInt := fun h => h1 (Int32.lt_iff_toInt_lt.mpr h)
    rw [if_neg h1]
    by_cases h2 : b < x
    · have := Int32.lt_iff_toInt_lt.mp h2
      rw [if_pos h2, if_neg (by rw [decide_eq_true_eq]; omega)]
    · have h2' : ¬ b.toInt < x.toInt := fun h => h2 (Int32.lt_iff_toInt_lt.mpr h)
      rw [if_neg h2, if_pos (by rw [decide_eq_true_eq]; omega)]
theorem if_in2 {α : Type} {x a b : Int32} {A E : α} : (if x < a then E else if x ≤ b then A else E) = (if decide (a.toInt ≤ x.toInt ∧ x.toInt ≤ b.toInt) = true then A else E) := by
  rw [← if_in]
  by_cases h1 : x < a
  · rw [if_pos h1, if_pos h1]
  · rw [if_neg h1, if_neg h1]
    by_cases h2 : b < x
    · have : ¬ x ≤ b := fun h => by
        have q1 := Int32.lt_iff_toInt_lt.mp h2
        have q2 := Int32.le_iff_toInt_le.mp h
        omega
      rw [if_pos h2, if_neg this]
    · have : x ≤ b := Int32.le_iff_toInt_le.mpr (by
        have q1 : ¬ b.toInt < x.toInt := fun h => h2 (Int32.lt_iff_toInt_lt.mpr h)
        omega)
      rw [if_neg h2, if_pos this]
theorem if_in3 {α : Type} {x a b : Int32} {A E : α} : (if x < a then E else if x < b then A else E) = (if decide (a.toInt ≤ x.toInt ∧ x.toInt < b.toInt) = true then A else E) := by
  by_cases h1 : x < a
  · have := Int32.lt_iff_toInt_lt.mp h1
    rw [if_pos h1, if_neg (by rw [decide_eq_true_eq]; omega)]
  · have h1' : ¬ x.toInt < a.toInt := fun h => h1 (Int32.lt_iff_toInt_lt.mpr h)
    rw [if_neg h1]
    by_cases h2 : x < b
    · have := Int32.lt_iff_toInt_lt.mp h2
      rw [if_pos h2, if_pos (by rw [decide_eq_true_eq]; omega)]
    · have h2' : ¬ x.toInt < b.toInt := fun h => h2 (Int32.lt_iff_toInt_lt.mpr h)
      rw [if_neg h2, if_neg (by rw [decide_eq_true_eq]; omega)]
theorem if_in4 {α : Type} {x a b : Int32} {A E : α} : (if x < a then E else if b ≤ x then E else A) = (if decide (a.toInt ≤ x.toInt ∧ x.toInt < b.toInt) = true then A else E) := by
  rw [← if_in3]
  by_cases h1 : x < a
  · rw [if_pos h1, if_pos h1]
  · rw [if_neg h1, if_neg h1]
    by_cases h2 : b ≤ x
    · have : ¬ x < b := fun h => by
        have q1 := Int32.lt_iff_toInt_lt.mp h
        have q2 := Int32.le_iff_toInt_le.mp h2
        omega
      rw [if_pos h2, if_neg this]
    · have : x < b := Int32.lt_iff_toInt_lt.mpr (by
        have q1 : ¬ b.toInt ≤ x.toInt := fun h => h2 (Int32.le_iff_toInt_le.mpr h)
        omega)
      rw [if_neg h2, if_pos this]
theorem if_some {b : Bool} : (if b = true then some true else some false) = some b := by cases b <;> rfl
theorem cIsAngle_e (x : Int32) : fX3_isAngle x = some (decide (0 ≤ x.toInt ∧ x.toInt < 36)) := by
  unfold fX3_isAngle
  rw [if_in4]
  exact if_some
theorem cIsZone_e (x : Int32) : fX3_isZone x = some (decide (0 ≤ x.toInt ∧ x.toInt < 6)) := by
  unfold fX3_isZone
  rw [if_in4]
  exact if_some
theorem cIsPrio_e (x : Int32) : fX3_isPriority x = some (decide (0 ≤ x.toInt ∧ x.toInt ≤ 9)) := by
  unfold fX3_isPriority
  rw [if_in]
  exact if_some
theorem cHasCrane_e {X M : Nat → Int32} {n : Nat} (hR : Rel X M n) (x : Int32) : fX1_hasCrane X x = some (decide (0 ≤ x.toInt ∧ x.toInt < n)) := by
  unfold fX1_hasCrane
  simp only [rdk2, hR.2.1, Option.bind_some]
  rw [if_in4, nI_toInt (by have := hR.1; omega)]
  exact if_some
section API
variable {R HR M : Nat → Int32} {HS HN SV : Int32} {fu : Nat}
theorem upd3_Rel {n : Nat} (hR : Rel R M n) (v : Int32) : Rel (upd R 3 v) (upd M 3 v) n := by
  obtain ⟨h1, h2, h3, h4, h5, h6, h7, h8, h9⟩ := hR
  refine ⟨h1, by rw [upd_ne (by decide)]; exact h2, by rw [upd_ne (by decide)]; exact h3, by rw [upd_ne (by decide), upd_ne (by decide)]; exact h4, by rw [upd_ne (by decide), upd_ne (by decide)]; exact h5, by rw [upd_eq, upd_eq], fun j hj => by rw [upd_ne (by omega), upd_ne (by omega)]; exact h7 j hj, fun c hc k hk => ?_, fun c hc hc4 k hk4 hk => ?_⟩
  · have := ix_lt c (by omega) k hk
    rw [upd_ne (by omega), F_low (by decide)]
    exact h8 c hc k hk
  · have := ix_lt c hc4 k hk
    rw [upd_ne (by omega)]
    exact h9 c hc hc4 k hk4 hk
theorem upd3_WF {n q : Nat} (hW : WF M n) (hq : q ≤ 10) : WF (upd M 3 (nI q)) n := ⟨by rw [upd_ne (by decide)]; exact hW.1, ⟨q, hq, upd_eq⟩, fun c hc => (hW.2.2 c hc).congr (F_low (by decide)) (F_low (by decide)) (F_low (by decide)) (F_low (by decide))⟩
end API

