/-! p35: the history, as far as it is asked for: the latest state -/
theorem q_sub0 (x : Int32) : x - (0 : Int32) = x := Int32.sub_zero x
theorem jmin_e {a b : Nat} (ha : a < 2 ^ 31) (hb : b < 2 ^ 31) : jmin (nI a) (nI b) = nI (min a b) := by
  unfold jmin
  by_cases h : b < a
  · rw [if_pos (q_lt h ha), Nat.min_eq_right (by omega)]
  · rw [if_neg (q_nlt (by omega) hb), Nat.min_eq_left (by omega)]
def HI (HS HN : Int32) : Prop := ∃ p sv : Nat, p < 5 ∧ sv ≤ 5 ∧ HS = nI sv ∧ HN = nI p
def KP (HR : Nat → Int32) (HS HN : Int32) (M : Nat → Int32) (n : Nat) : Prop := ∃ p sv : Nat, p < 5 ∧ sv < 5 ∧ HS = nI (sv + 1) ∧ HN = nI ((p + 1) % 5) ∧ Rel (fun j => HR (132 * p + j)) M n
theorem KP.hi {HR M : Nat → Int32} {HS HN : Int32} {n : Nat} (h : KP HR HS HN M n) : HI HS HN := by
  obtain ⟨p, sv, h1, h2, h3, h4, -⟩ := h
  exact ⟨(p + 1) % 5, sv + 1, Nat.mod_lt _ (by decide), by omega, h3, h4⟩
theorem keep_n {R HR M : Nat → Int32} {HS HN : Int32} {n : Nat} (hR : Rel R M n) (hH : HI HS HN) : ∃ (HR' : Nat → Int32) (HS' HN' : Int32), fX0_keep HR HS HN R = some (HR', HS', HN') ∧ KP HR' HS' HN' M n := by
  obtain ⟨p, sv, hp, hs, rfl, rfl⟩ := hH
  refine ⟨va_cpy R HR 0 (132 * p) 132, nI (min (sv + 1) 5), nI ((p + 1) % 5), ?_, p, min sv 4, hp, by omega, by rw [show min (sv + 1) 5 = min sv 4 + 1 by omega], rfl, ?_⟩
  · unfold fX0_keep fX1_saveTo
    have h1 : cpA R 132 HR 660 (0 : Int32) (nI p * (132 : Int32)) (132 : Int32) = some (va_cpy R HR 0 (132 * p) 132) := by
      have e : nI p * (132 : Int32) = nI (132 * p) := by
        show nI p * nI 132 = _
        rw [pk_mul, Nat.mul_comm]
      rw [e]
      exact cpA_e (sp := 0) (n := 132) (by decide) (by omega) (by decide) (by decide)
    have h2 : jmin (nI (sv + 1)) (5 : Int32) = nI (min (sv + 1) 5) := jmin_e (b := 5) (by omega) (by decide)
    simp only [h1, Option.bind_some, nI_1, h2]
    by_cases e : p = 4
    · subst e
      rw [if_pos (show (5 : Int32) ≤ nI (4 + 1) from q_le (a := 5) (by decide) (by decide))]
      rfl
    · rw [if_neg (show ¬ (5 : Int32) ≤ nI (p + 1) from q_nle (a := 5) (by omega) (by decide)), Nat.mod_eq_of_lt (show p + 1 < 5 by omega)]
  · refine hR.agreeX (fun j hj => ?_)
    show va_cpy R HR 0 (132 * p) 132 (132 * p + j) = R j
    rw [pk_cpy_in (by omega) (by omega)]
    congr 1
    omega
theorem undo_n {R HR M : Nat → Int32} {HS HN : Int32} {n : Nat} (h : KP HR HS HN M n) : ∃ (v : Int32) (R' : Nat → Int32) (HS' HN' : Int32), fX3_undo R HR HS HN = some (v, R', HS', HN') ∧ ¬ v < 0 ∧ Rel R' M n ∧ HI HS' HN' := by
  obtain ⟨p, sv, hp, hs, rfl, rfl, hR⟩ := h
  have hne : ¬ nI (sv + 1) = (0 : Int32) := q_ne (b := 0) (by omega) (by omega) (by decide)
  have hl : ∀ q, q < 5 → cpA HR 660 R 132 (nI (132 * q)) (0 : Int32) (132 : Int32) = some (va_cpy HR R (132 * q) 0 132) := fun q hq => cpA_e (dp := 0) (n := 132) (by omega) (by decide) (by decide) (by decide)
  refine ⟨nI sv, va_cpy HR R (132 * p) 0 132, nI sv, nI p, ?_, nI_pos (by omega), ?_, p, sv, hp, by omega, rfl, rfl⟩
  · unfold fX3_undo fX0_isEmpty fX0_restore fX1_loadFrom
    simp only [if_neg hne, Option.bind_some]
    by_cases e : p = 4
    · subst e
      have h4 : (4 : Int32) * (132 : Int32) = nI (132 * 4) := by decide
      simp only [if_pos (show nI ((4 + 1) % 5) ≤ (0 : Int32) by decide), h4, hl 4 (by decide), Option.bind_some, nI_pred]
      rfl
    · have h4 : nI p * (132 : Int32) = nI (132 * p) := by
        show nI p * nI 132 = _
        rw [pk_mul, Nat.mul_comm]
      have e5 : (p + 1) % 5 = p + 1 := Nat.mod_eq_of_lt (by omega)
      simp only [e5, if_neg (show ¬ nI (p + 1) ≤ (0 : Int32) from nI_nle (by omega) (by omega)), nI_pred, h4, hl p (by omega), Option.bind_some]
      rfl
  · refine hR.agreeX (fun j hj => ?_)
    show va_cpy HR R (132 * p) 0 132 j = HR (132 * p + j)
    rw [pk_cpy_in (by omega) (by omega)]
    congr 1
theorem undo_0 (R HR : Nat → Int32) : fX3_undo R HR 0 0 = some ((-103 : Int32), R, 0, 0) := by
  unfold fX3_undo fX0_isEmpty
  rw [if_pos rfl]
  rfl
