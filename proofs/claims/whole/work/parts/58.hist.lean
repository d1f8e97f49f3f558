/-! the history -/
def Hist (HR : Nat → Int32) (p sv : Nat) (M : Nat → Int32) : Prop := p < 5 ∧ sv ≤ 5 ∧ ∀ a, a < sv → ∃ m, Rel (fun j => HR (132 * ((p + 4 - a) % 5) + j)) (fun j => M (128 * (sv - a) + j)) m ∧ WF (fun j => M (128 * (sv - a) + j)) m
theorem Hist.agree {HR M M' : Nat → Int32} {p sv : Nat} (h : Hist HR p sv M) (hM : ∀ j, 128 ≤ j → j < 768 → M' j = M j) : Hist HR p sv M' := by
  obtain ⟨h1, h2, h3⟩ := h
  refine ⟨h1, h2, fun a ha => ?_⟩
  obtain ⟨m, r, w⟩ := h3 a ha
  have e : ∀ j, j < 128 → (fun j => M' (128 * (sv - a) + j)) j = (fun j => M (128 * (sv - a) + j)) j := fun j hj => hM _ (by omega) (by omega)
  exact ⟨m, r.agree e, w.agree r.1 e⟩
def svM (M : Nat → Int32) (sv : Nat) : Nat → Int32 := if sv = 5 then cpS (cpS (cpS (cpS (cpS M 2 1) 3 2) 4 3) 5 4) 0 5 else cpS M 0 (sv + 1)
theorem q_sub0 (x : Int32) : x - (0 : Int32) = x := Int32.sub_zero x
theorem saves_e {M : Nat → Int32} {fu sv : Nat} (hfu : 128 < fu) (hs : sv ≤ 5) : fX4_saves fu M (nI sv) = some (svM M sv, nI (min (sv + 1) 5)) := by
  unfold fX4_saves svM
  obtain ⟨f1, rfl⟩ : ∃ q, fu = q + 5 := ⟨fu - 5, by omega⟩
  by_cases h5 : sv = 5
  · subst h5
    rw [if_pos rfl]
    have st : ∀ (T : Nat → Int32) (k : Nat), k < 5 → 0 < k → fX4_saves_L2 (f1 + 5) (nI 5) (T, nI k) = some (.inl (cpS T (k + 1) k, nI (k + 1))) := by
      intro T k hk h0
      unfold fX4_saves_L2
      simp only [if_neg (show ¬ (5 : Int32) ≤ nI k from q_nle (a := 5) hk (by decide)), if_pos (show nI 5 = (5 : Int32) from rfl), nI_1, copies_e (fu := f1 + 5) (by omega) (show k + 1 < 7 by omega) (show k < 7 by omega) (by omega), Option.bind_some]
    have s1 : fX4_saves_L2 (f1 + 5) (nI 5) (M, (1 : Int32)) = some (.inl (cpS M 2 1, nI 2)) := st M 1 (by decide) (by decide)
    rw [lp_inl s1, lp_inl (st _ 2 (by decide) (by decide)), lp_inl (st _ 3 (by decide) (by decide)), lp_inl (st _ 4 (by decide) (by decide))]
    refine lp_inr ?_
    unfold fX4_saves_L2
    have e5 : (nI 5 - (1 : Int32)) + (1 : Int32) = nI 5 := by decide
    have hc : ∀ T, fX4_copies (f1 + 5) T (0 : Int32) (nI 5) = some (cpS T 0 5) := fun T => copies_e (a := 0) (b := 5) (by omega) (by decide) (by decide) (by decide)
    simp only [if_pos (show (5 : Int32) ≤ nI 5 from q_le (a := 5) (by decide) (by decide)), if_pos (show nI 5 = (5 : Int32) from rfl), e5, hc, Option.bind_some]
    rfl
  · rw [if_neg h5]
    refine lp_inr ?_
    unfold fX4_saves_L2
    have hne : ¬ nI sv = (5 : Int32) := q_ne (b := 5) h5 (by omega) (by decide)
    have hc : fX4_copies (f1 + 5) M (0 : Int32) (nI (sv + 1)) = some (cpS M 0 (sv + 1)) := copies_e (a := 0) (by omega) (by decide) (by omega) (by omega)
    simp only [if_neg (show ¬ (5 : Int32) ≤ (1 : Int32) by decide), if_neg hne, q_sub0, nI_1, hc, Option.bind_some]
    rw [show min (sv + 1) 5 = sv + 1 by omega]
theorem svM_lo {M : Nat → Int32} {sv j : Nat} (h : j < 128) : svM M sv j = M j := by
  unfold svM
  split
  · rw [cpS_ne (by omega), cpS_ne (by omega), cpS_ne (by omega), cpS_ne (by omega), cpS_ne (by omega)]
  · rw [cpS_ne (by omega)]
/-- the newest slot -/
theorem svM_new {M : Nat → Int32} {sv j : Nat} (hs : sv ≤ 5) (h : j < 128) : svM M sv (128 * min (sv + 1) 5 + j) = M j := by
  unfold svM
  split
  · rename_i e
    subst e
    rw [show min (5 + 1) 5 = 5 by decide, cpS_in h, cpS_ne (by omega), cpS_ne (by omega), cpS_ne (by omega), cpS_ne (by omega)]
    congr 1
    omega
  · rename_i e
    rw [show min (sv + 1) 5 = sv + 1 by omega, cpS_in h]
    congr 1
    omega
/-- an older slot: the a-th before becomes the one before the new one -/
theorem svM_old {M : Nat → Int32} {sv j a : Nat} (hs : sv ≤ 5) (h : j < 128) (ha : a + 1 < min (sv + 1) 5) : svM M sv (128 * (min (sv + 1) 5 - (a + 1)) + j) = M (128 * (sv - a) + j) := by
  unfold svM
  split
  · rename_i e
    subst e
    rw [show min (5 + 1) 5 = 5 by decide]
    have h4 : a = 0 ∨ a = 1 ∨ a = 2 ∨ a = 3 := by omega
    rcases h4 with rfl | rfl | rfl | rfl
    · rw [cpS_ne (by omega), show 128 * (5 - (0 + 1)) + j = 128 * 4 + j by omega, cpS_in h, cpS_ne (by omega), cpS_ne (by omega), cpS_ne (by omega)]
    · rw [cpS_ne (by omega), cpS_ne (by omega), show 128 * (5 - (1 + 1)) + j = 128 * 3 + j by omega, cpS_in h, cpS_ne (by omega), cpS_ne (by omega)]
    · rw [cpS_ne (by omega), cpS_ne (by omega), cpS_ne (by omega), show 128 * (5 - (2 + 1)) + j = 128 * 2 + j by omega, cpS_in h, cpS_ne (by omega)]
    · rw [cpS_ne (by omega), cpS_ne (by omega), cpS_ne (by omega), cpS_ne (by omega), show 128 * (5 - (3 + 1)) + j = 128 * 1 + j by omega, cpS_in h]
  · rename_i e
    rw [cpS_ne (by omega)]
    congr 1
    omega
theorem jmin_e {a b : Nat} (ha : a < 2 ^ 31) (hb : b < 2 ^ 31) : jmin (nI a) (nI b) = nI (min a b) := by
  unfold jmin
  by_cases h : b < a
  · rw [if_pos (q_lt h ha), Nat.min_eq_right (by omega)]
  · rw [if_neg (q_nlt (by omega) hb), Nat.min_eq_left (by omega)]
theorem keep_pair {R HR M : Nat → Int32} {fu n p sv : Nat} (hfu : 128 < fu) (hR : Rel R M n) (hW : WF M n) (hH : Hist HR p sv M) : ∃ HR', fX0_keep HR (nI sv) (nI p) R = some (HR', nI (min (sv + 1) 5), nI ((p + 1) % 5)) ∧ fX4_saves fu M (nI sv) = some (svM M sv, nI (min (sv + 1) 5)) ∧ Hist HR' ((p + 1) % 5) (min (sv + 1) 5) (svM M sv) ∧ Rel R (svM M sv) n ∧ WF (svM M sv) n := by
  obtain ⟨hp, hs, hh⟩ := hH
  refine ⟨va_cpy R HR 0 (132 * p) 132, ?_, saves_e hfu hs, ⟨Nat.mod_lt _ (by decide), by omega, fun a ha => ?_⟩, hR.agree (fun j hj => svM_lo hj), hW.agree hR.1 (fun j hj => svM_lo hj)⟩
  · unfold fX0_keep fX1_saveTo
    have h1 : cpA R 132 HR 660 (0 : Int32) (nI p * (132 : Int32)) (132 : Int32) = some (va_cpy R HR 0 (132 * p) 132) := by
      have e : nI p * (132 : Int32) = nI (132 * p) := by
        show nI p * nI 132 = _
        rw [pk_mul, Nat.mul_comm]
      rw [e]
      exact cpA_e (sp := 0) (n := 132) (by decide) (by omega) (by decide) (by decide)
    have h2 : jmin (nI (sv + 1)) (5 : Int32) = nI (min (sv + 1) 5) := jmin_e (b := 5) (by omega) (by decide)
    simp only [h1, Option.bind_some, nI_1, h2]
    by_cases e : p = 4
    · subst e
      rw [if_pos (show (5 : Int32) ≤ nI (4 + 1) from q_le (a := 5) (by decide) (by decide))]
      rfl
    · rw [if_neg (show ¬ (5 : Int32) ≤ nI (p + 1) from q_nle (a := 5) (by omega) (by decide)), Nat.mod_eq_of_lt (show p + 1 < 5 by omega)]
  · cases a with
    | zero =>
      refine ⟨n, ?_, ?_⟩
      · have e : ((p + 1) % 5 + 4 - 0) % 5 = p := by omega
        rw [e]
        refine (hR.agree (M' := fun j => svM M sv (128 * (min (sv + 1) 5 - 0) + j)) (fun j hj => svM_new hs hj)).agreeX (fun j hj => ?_)
        show va_cpy R HR 0 (132 * p) 132 (132 * p + j) = R j
        rw [pk_cpy_in (by omega) (by omega)]
        congr 1
        omega
      · exact hW.agree hR.1 (fun j hj => svM_new hs hj)
    | succ a =>
      obtain ⟨m, r, w⟩ := hh a (by omega)
      have e : ((p + 1) % 5 + 4 - (a + 1)) % 5 = (p + 4 - a) % 5 := by omega
      refine ⟨m, ?_, ?_⟩
      · rw [e]
        refine (r.agree (M' := fun j => svM M sv (128 * (min (sv + 1) 5 - (a + 1)) + j)) (fun j hj => svM_old hs hj ha)).agreeX (fun j hj => ?_)
        show va_cpy R HR 0 (132 * p) 132 (132 * ((p + 4 - a) % 5) + j) = HR (132 * ((p + 4 - a) % 5) + j)
        rw [pk_cpy_out (by omega)]
      · exact w.agree r.1 (fun j hj => svM_old hs hj ha)
theorem undo_pair {R HR M : Nat → Int32} {fu n p sv : Nat} (hfu : 128 < fu) (hR : Rel R M n) (hW : WF M n) (hH : Hist HR p sv M) : ∃ (v : Int32) (R' M' : Nat → Int32) (n' p' sv' : Nat), fX3_undo R HR (nI sv) (nI p) = some (v, R', nI sv', nI p') ∧ fX4_undo fu M (nI sv) = some (v, M', nI sv') ∧ Rel R' M' n' ∧ WF M' n' ∧ Hist HR p' sv' M' := by
  obtain ⟨hp, hs, hh⟩ := hH
  by_cases h0 : sv = 0
  · subst h0
    refine ⟨(-103 : Int32), R, M, n, p, 0, ?_, ?_, hR, hW, hp, hs, hh⟩
    · unfold fX3_undo fX0_isEmpty
      rw [if_pos (show nI 0 = (0 : Int32) from rfl)]
      rfl
    · unfold fX4_undo
      rw [if_pos (show nI 0 = (0 : Int32) from rfl)]
  · obtain ⟨s, rfl⟩ : ∃ s, sv = s + 1 := ⟨sv - 1, by omega⟩
    have hne : ¬ nI (s + 1) = (0 : Int32) := q_ne (b := 0) (by omega) (by omega) (by decide)
    obtain ⟨m, r, w⟩ := hh 0 (by omega)
    have hlo : ∀ j, j < 128 → cpS M (s + 1) 0 j = M (128 * (s + 1 - 0) + j) := fun j hj => by
      have := cpS_in (M := M) (a := s + 1) (b := 0) hj
      rw [show 128 * 0 + j = j by omega] at this
      exact this
    have hcp : ∀ q, q < 5 → ∀ j, j < 132 → va_cpy HR R (132 * q) 0 132 j = HR (132 * q + j) := fun q hq j hj => by
      rw [pk_cpy_in (by omega) (by omega)]
      congr 1
    refine ⟨nI s, va_cpy HR R (132 * ((p + 4) % 5)) 0 132, cpS M (s + 1) 0, m, (p + 4) % 5, s, ?_, ?_, ?_, w.agree r.1 hlo, ⟨Nat.mod_lt _ (by decide), by omega, fun a ha => ?_⟩⟩
    · unfold fX3_undo fX0_isEmpty fX0_restore fX1_loadFrom
      simp only [if_neg hne, Option.bind_some]
      have hl : ∀ q, q < 5 → cpA HR 660 R 132 (nI (132 * q)) (0 : Int32) (132 : Int32) = some (va_cpy HR R (132 * q) 0 132) := fun q hq => cpA_e (dp := 0) (n := 132) (by omega) (by decide) (by decide) (by decide)
      by_cases e : p = 0
      · subst e
        have h4 : (4 : Int32) * (132 : Int32) = nI (132 * 4) := by decide
        simp only [if_pos (show nI 0 ≤ (0 : Int32) by decide), h4, hl 4 (by decide), Option.bind_some, nI_pred]
        rfl
      · obtain ⟨q, rfl⟩ : ∃ q, p = q + 1 := ⟨p - 1, by omega⟩
        have h4 : nI q * (132 : Int32) = nI (132 * q) := by
          show nI q * nI 132 = _
          rw [pk_mul, Nat.mul_comm]
        have e4 : (q + 1 + 4) % 5 = q := by omega
        simp only [if_neg (show ¬ nI (q + 1) ≤ (0 : Int32) from nI_nle (by omega) (by omega)), nI_pred, h4, hl q (by omega), Option.bind_some, e4]
        rfl
    · unfold fX4_undo
      have hc : fX4_copies fu M (nI (s + 1)) (0 : Int32) = some (cpS M (s + 1) 0) := copies_e (b := 0) hfu (by omega) (by decide) (by omega)
      simp only [if_neg hne, hc, Option.bind_some, nI_pred]
    · refine (r.agree hlo).agreeX (fun j hj => ?_)
      rw [hcp _ (Nat.mod_lt _ (by decide)) j hj]
      rfl
    · obtain ⟨m2, r2, w2⟩ := hh (a + 1) (by omega)
      have e : ((p + 4) % 5 + 4 - a) % 5 = (p + 4 - (a + 1)) % 5 := by omega
      have hag : ∀ j, j < 128 → (fun j => cpS M (s + 1) 0 (128 * (s - a) + j)) j = (fun j => M (128 * (s + 1 - (a + 1)) + j)) j := fun j hj => by
        show cpS M (s + 1) 0 (128 * (s - a) + j) = _
        rw [cpS_ne (by omega)]
        congr 1
        omega
      refine ⟨m2, ?_, w2.agree r2.1 hag⟩
      rw [e]
      exact r2.agree hag
