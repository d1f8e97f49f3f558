/-! aim, turnRound, tick, addCrane, removeArc -/
theorem a_neg1 : ∀ a, a < 36 → ∀ t, t < 36 → jrem (((-1 : Int32) * (nI t - nI a)) + (36 : Int32)) (36 : Int32) = jrem ((nI a - nI t) + (36 : Int32)) (36 : Int32) := by decide +kernel
theorem a_eq0 : ∀ a, a < 36 → ∀ w, w < 3 → jrem (((nI w - 1) * (nI a - nI a)) + (36 : Int32)) (36 : Int32) = 0 := by decide +kernel
theorem a_ne1 : ∀ a, a < 36 → ∀ t, t < 36 → ¬ a = t → ¬ jrem (((1 : Int32) * (nI t - nI a)) + (36 : Int32)) (36 : Int32) = 0 := by decide +kernel
theorem a_ne2 : ∀ a, a < 36 → ∀ t, t < 36 → ¬ a = t → ¬ jrem (((-1 : Int32) * (nI t - nI a)) + (36 : Int32)) (36 : Int32) = 0 := by decide +kernel
section AIM
variable {X R HR M : Nat → Int32} {HS HN SV : Int32} {fu n c : Nat}
/-- the steps to the target, by a way that is one -/
theorem cStepsTo_e (hR : Rel X M n) (hc : c < n) (ha : ∃ a, a < 36 ∧ F M c 0 = nI a) (ht : ∃ t, t < 36 ∧ F M c 3 = nI t) (hw : F M c 4 = 1 ∨ F M c 4 = -1) : fX1_stepsToTarget X (nI c) = some (stTo M c (F M c 3) (F M c 4)) := by
  obtain ⟨a, ha, ea⟩ := ha
  obtain ⟨t, ht, et⟩ := ht
  unfold fX1_stepsToTarget stTo fX3_stepsClockwise
  simp only [rd4 (hR.lt hc), rd16 (hR.lt hc), rd20 (hR.lt hc), hR.f hc 0 (by decide), hR.f hc 3 (by decide), hR.f hc 4 (by decide), Option.bind_some]
  rcases hw with hw | hw
  · rw [hw, if_pos rfl, Int32.one_mul]
  · rw [hw, if_neg (by decide), ea, et, a_neg1 a ha t ht]
def its (M : Nat → Int32) (c : Nat) (t w : Int32) : Int32 := if w = (0 : Int32) then (if (18 : Int32) < stTo M c t 1 then -1 else 1) else w
def aim1 (M : Nat → Int32) (c : Nat) (t w : Int32) : Nat → Int32 := setF (setF M c 3 t) c 4 (its M c t w)
def aimM (M : Nat → Int32) (c : Nat) (t w : Int32) : Nat → Int32 := if stTo M c t (its M c t w) = (0 : Int32) then noT (aim1 M c t w) c else aim1 M c t w
theorem aims_e (hc : c < 4) (t w : Int32) : fX4_aims M (nI c) t w = some (stTo M c t (its M c t w), aimM M c t w) := by
  unfold fX4_aims aimM aim1 its
  simp only [stepsTo_e hc, sets3 hc, sets4 hc, noTarget_e hc, Option.bind_some]
  by_cases h0 : w = 0
  · simp only [if_pos h0]
    by_cases h1 : (18 : Int32) < stTo M c t 1
    · simp only [if_pos h1]
      split <;> rfl
    · simp only [if_neg h1]
      split <;> rfl
  · simp only [if_neg h0]
    split <;> rfl
theorem noT_over (t w : Int32) : noT (setF (setF M c 3 t) c 4 w) c = noT M c := by
  funext j
  unfold noT setF upd
  by_cases e4 : j = 4 + 21 * c + 4
  · simp [e4]
  · by_cases e3 : j = 4 + 21 * c + 3
    · simp [e3]
    · simp [e3, e4]
theorem its_cases {t w : Int32} (hw : w = 0 ∨ w = 1 ∨ w = -1) : its M c t w = 1 ∨ its M c t w = -1 := by
  unfold its
  rcases hw with rfl | rfl | rfl
  · rw [if_pos rfl]
    split
    · exact Or.inr rfl
    · exact Or.inl rfl
  · exact Or.inl (if_neg (by decide))
  · exact Or.inr (if_neg (by decide))
theorem aimM_F {c' k : Nat} {t w : Int32} (h : c' ≠ c) (hk : k < 21) : F (aimM M c t w) c' k = F M c' k := by
  unfold aimM aim1 noT
  split
  · rw [F_nc h (by decide) hk, F_nc h (by decide) hk, F_nc h (by decide) hk, F_nc h (by decide) hk]
  · rw [F_nc h (by decide) hk, F_nc h (by decide) hk]
theorem aimM_k {k : Nat} {t w : Int32} (h3 : k ≠ 3) (h4 : k ≠ 4) : F (aimM M c t w) c k = F M c k := by
  unfold aimM aim1 noT
  split
  · rw [F_nk h4, F_nk h3, F_nk h4, F_nk h3]
  · rw [F_nk h4, F_nk h3]
theorem aimM_lo {i : Nat} {t w : Int32} (h : i < 4) : aimM M c t w i = M i := by
  unfold aimM aim1 noT
  split
  · rw [setF_lo h, setF_lo h, setF_lo h, setF_lo h]
  · rw [setF_lo h, setF_lo h]
theorem aimM_hi {i : Nat} {t w : Int32} (hc : c < 4) (h : 88 ≤ i) : aimM M c t w i = M i := by
  unfold aimM aim1 noT
  split
  · rw [setF_hi hc (by decide) h, setF_hi hc (by decide) h, setF_hi hc (by decide) h, setF_hi hc (by decide) h]
  · rw [setF_hi hc (by decide) h, setF_hi hc (by decide) h]
theorem aimM_WF {t : Nat} {w : Int32} (hW : WF M n) (hc : c < n) (ht : t < 36) (hw : w = 0 ∨ w = 1 ∨ w = -1) : WF (aimM M c (nI t) w) n := by
  refine hW.at (c := c) (aimM_lo (by decide)) (aimM_lo (by decide)) (fun c' e k hk => aimM_F e hk) (fun _ => ?_)
  have hwc := hW.2.2 c hc
  have h1 : WFC (aim1 M c (nI t) w) c := by
    have e0 : F (aim1 M c (nI t) w) c 0 = F M c 0 := by unfold aim1; rw [F_nk (by decide), F_nk (by decide)]
    have e7 : F (aim1 M c (nI t) w) c 7 = F M c 7 := by unfold aim1; rw [F_nk (by decide), F_nk (by decide)]
    have e3 : F (aim1 M c (nI t) w) c 3 = nI t := by unfold aim1; rw [F_nk (by decide), F_same]
    have e4 : F (aim1 M c (nI t) w) c 4 = its M c (nI t) w := by unfold aim1; rw [F_same]
    refine ⟨by rw [e0]; exact hwc.1, Or.inr ⟨t, ht, e3⟩, ?_, ?_, by rw [e7]; exact hwc.2.2.2.2⟩
    · rw [e4]
      exact Or.inr (its_cases hw)
    · rw [e4]
      right
      rcases its_cases (M := M) (c := c) (t := nI t) hw with q | q <;> rw [q] <;> decide
  unfold aimM
  split
  · exact h1.none
  · exact h1
theorem cAim_e {t : Nat} {w : Int32} (hR : Rel X M n) (hW : WF M n) (hc : c < n) (ht : t < 36) (hw : w = 0 ∨ w = 1 ∨ w = -1) : ∃ X', fX1_aim X (nI c) (nI t) w = some (stTo M c (nI t) (its M c (nI t) w), X') ∧ Rel X' (aimM M c (nI t) w) n := by
  have hc4 := hR.lt hc
  obtain ⟨a, ha, ea⟩ := (hW.2.2 c hc).1
  by_cases e : a = t
  · subst e
    obtain ⟨X', d1, d2⟩ := cDrop_e hR hc
    have hz : stTo M c (nI a) (its M c (nI a) w) = 0 := by
      unfold stTo
      rw [ea]
      rcases its_cases (M := M) (c := c) (t := nI a) hw with q | q <;> rw [q]
      · exact a_eq0 a ha 2 (by decide)
      · exact a_eq0 a ha 0 (by decide)
    refine ⟨X', ?_, ?_⟩
    · unfold fX1_aim
      simp only [rd4 hc4, hR.f hc 0 (by decide), ea, if_true, d1, Option.bind_some]
      rw [hz]
    · unfold aimM
      rw [if_pos hz]
      unfold aim1
      rw [noT_over]
      exact d2
  · have hne : ¬ F M c 0 = nI t := by rw [ea]; exact q_ne e (by omega) (by omega)
    have hnz : ¬ stTo M c (nI t) (its M c (nI t) w) = 0 := by
      unfold stTo
      rw [ea]
      rcases its_cases (M := M) (c := c) (t := nI t) hw with q | q <;> rw [q]
      · exact a_ne1 a ha t ht e
      · exact a_ne2 a ha t ht e
    have hX1 := hR.set (k := 3) (nI t) hc (by decide)
    have hX2 : Rel (upd (upd X (ix c 3) (nI t)) (ix c 4) (its M c (nI t) w)) (aim1 M c (nI t) w) n := hX1.set (k := 4) (its M c (nI t) w) hc (by decide)
    have e0 : F (aim1 M c (nI t) w) c 0 = F M c 0 := by unfold aim1; rw [F_nk (by decide), F_nk (by decide)]
    have e3 : F (aim1 M c (nI t) w) c 3 = nI t := by unfold aim1; rw [F_nk (by decide), F_same]
    have e4 : F (aim1 M c (nI t) w) c 4 = its M c (nI t) w := by unfold aim1; rw [F_same]
    have hst : fX1_stepsToTarget (upd (upd X (ix c 3) (nI t)) (ix c 4) (its M c (nI t) w)) (nI c) = some (stTo M c (nI t) (its M c (nI t) w)) := by
      rw [cStepsTo_e hX2 hc ⟨a, ha, by rw [e0]; exact ea⟩ ⟨t, ht, e3⟩ (by rw [e4]; exact its_cases hw), e3, e4]
      unfold stTo
      rw [e0]
    refine ⟨_, ?_, by unfold aimM; rw [if_neg hnz]; exact hX2⟩
    unfold fX1_aim fX3_shorterWay fX3_stepsClockwise
    simp only [rd4 hc4, wr16 hc4, wr20 hc4, hR.f hc 0 (by decide), if_neg hne, Option.bind_some]
    by_cases h0 : w = 0
    · have hits : its M c (nI t) w = if (18 : Int32) < jrem ((nI t - F M c 0) + (36 : Int32)) (36 : Int32) then (-1 : Int32) else 1 := by
        unfold its stTo
        rw [if_pos h0, Int32.one_mul]
      simp only [if_pos h0]
      by_cases h1 : (18 : Int32) < jrem ((nI t - F M c 0) + (36 : Int32)) (36 : Int32)
      · rw [if_pos h1] at hits ⊢
        rw [← hits]
        simp only [Option.bind_some, hst]
      · rw [if_neg h1] at hits ⊢
        rw [← hits]
        simp only [Option.bind_some, hst]
    · have hits : its M c (nI t) w = w := if_neg h0
      simp only [if_neg h0]
      rw [hits] at hst ⊢
      simp only [hst, Option.bind_some]
theorem way_of {x : Int32} (h : (-1 : Int32).toInt ≤ x.toInt ∧ x.toInt ≤ (1 : Int32).toInt) : x = 0 ∨ x = 1 ∨ x = -1 := by
  have h : -1 ≤ x.toInt ∧ x.toInt ≤ 1 := h
  have h3 : x.toInt = 0 ∨ x.toInt = 1 ∨ x.toInt = -1 := by omega
  rcases h3 with h3 | h3 | h3
  · exact Or.inl (Int32.toInt_inj.mp (h3.trans (show (0 : Int) = (0 : Int32).toInt by decide)))
  · exact Or.inr (Or.inl (Int32.toInt_inj.mp (h3.trans (show (1 : Int) = (1 : Int32).toInt by decide))))
  · exact Or.inr (Or.inr (Int32.toInt_inj.mp (h3.trans (show (-1 : Int) = (-1 : Int32).toInt by decide))))
theorem cCanAim_e (hR : Rel X M n) (hc : c < n) : fX1_canAim X (nI c) = some (!(ons M c || lft M c)) := by
  unfold fX1_canAim
  simp only [cIsOnStep_e hR hc, cIsLeft_e hR hc, Option.bind_some]
  cases ons M c <;> cases lft M c <;> rfl
theorem mMayNot_e (hc : c < 4) : fX4_mayNotAim M (nI c) = some (ons M c || lft M c) := by
  unfold fX4_mayNotAim
  simp only [isOnStep_e hc, of7 hc, Option.bind_some, lft_iff]
  cases ons M c <;> cases lft M c <;> rfl
theorem slew_pair (hfu : 128 < fu) (h : INV R HR HS HN M SV) (x1 x2 x3 : Int32) : OutP (fX3_slew R HR HS HN x1 x2 x3) (fX4_slew fu M SV x1 x2 x3) := by
  obtain ⟨n, p, sv, hR, hW, hH, rfl, rfl, rfl⟩ := id h
  unfold fX3_slew fX4_slew
  simp only [cHasCrane_e hR, mIsCrane_e hR.1 hR.2.2.1, cIsAngle_e, mIsAngle_e, in_e, if_in2, Option.bind_some]
  by_cases hc : 0 ≤ x1.toInt ∧ x1.toInt < n
  · obtain ⟨c, hcn, rfl⟩ := of_toInt hc (by have := hR.1; omega)
    have hc4 := hR.lt hcn
    simp only [decide_eq_true hc, if_true]
    by_cases ht : 0 ≤ x2.toInt ∧ x2.toInt < 36
    · obtain ⟨t, ht36, rfl⟩ := of_toInt (n := 36) ht (by decide)
      simp only [decide_eq_true ht, if_true]
      by_cases hw : (-1 : Int32).toInt ≤ x3.toInt ∧ x3.toInt ≤ (1 : Int32).toInt
      · simp only [decide_eq_true hw, if_true, cCanAim_e hR hcn, mMayNot_e hc4, Option.bind_some]
        by_cases h1 : (ons M c || lft M c) = true
        · rw [h1]
          exact OutP_err h _
        · have h1' : (ons M c || lft M c) = false := by simpa using h1
          obtain ⟨HR', k1, k2, k3, k4, k5⟩ := keep_pair hfu hR hW hH
          obtain ⟨X', d1, d2⟩ := cAim_e k4 k5 hcn ht36 (way_of hw)
          rw [h1']
          simp only [Bool.not_false, if_true, Bool.false_eq_true, if_false, k1, k2, d1, aims_e hc4, Option.bind_some]
          have hag : stTo (svM M sv) c (nI t) (its (svM M sv) c (nI t) x3) = stTo (svM M sv) c (nI t) (its (svM M sv) c (nI t) x3) := rfl
          exact OutP_rec _ k3 (fun j hj => aimM_hi hc4 (by omega)) d2 (aimM_WF k5 hcn ht36 (way_of hw))
      · simp only [decide_eq_false hw]
        exact OutP_err h _
    · simp only [decide_eq_false ht]
      exact OutP_err h _
  · simp only [decide_eq_false hc]
    exact OutP_err h _
theorem turnRound_pair (hfu : 128 < fu) (h : INV R HR HS HN M SV) (x1 : Int32) : OutP (fX3_turnRound R HR HS HN x1) (fX4_turnRound fu M SV x1) := by
  obtain ⟨n, p, sv, hR, hW, hH, rfl, rfl, rfl⟩ := id h
  unfold fX3_turnRound fX4_turnRound
  simp only [cHasCrane_e hR, mIsCrane_e hR.1 hR.2.2.1, Option.bind_some]
  by_cases hc : 0 ≤ x1.toInt ∧ x1.toInt < n
  · obtain ⟨c, hcn, rfl⟩ := of_toInt hc (by have := hR.1; omega)
    have hc4 := hR.lt hcn
    simp only [decide_eq_true hc, if_true, cHasTarget_e hR hcn, hasTarget_e hc4, cIsOnStep_e hR hcn, isOnStep_e hc4, Option.bind_some]
    by_cases h2 : hasT M c = true
    · simp only [h2, if_true]
      by_cases h1 : ons M c = true
      · rw [if_pos h1, if_pos h1]
        exact OutP_err h _
      · obtain ⟨HR', k1, k2, k3, k4, k5⟩ := keep_pair hfu hR hW hH
        have hF : ∀ k, k < 21 → F (svM M sv) c k = F M c k := fun k hk => svM_lo (by omega)
        obtain ⟨⟨a, ha, ea⟩, h3, h4, h5, h7⟩ := k5.2.2 c hcn
        have hT : ¬ F (svM M sv) c 3 = -100 := by
          rw [hF 3 (by decide)]
          intro q
          unfold hasT at h2
          rw [if_pos q] at h2
          exact absurd h2 (by decide)
        have h3' : ∃ t, t < 36 ∧ F (svM M sv) c 3 = nI t := h3.elim (fun q => absurd q hT) id
        have h4' : ¬ F (svM M sv) c 4 = 0 := h5.elim (fun q => absurd q hT) id
        have h4'' : F (svM M sv) c 4 = 1 ∨ F (svM M sv) c 4 = -1 := h4.elim (fun q => absurd q h4') id
        have hr := k4.set (k := 4) (-(F (svM M sv) c 4)) hcn (by decide)
        have hneg : -(F (svM M sv) c 4) = 1 ∨ -(F (svM M sv) c 4) = -1 := by
          rcases h4'' with q | q <;> rw [q]
          · exact Or.inr rfl
          · exact Or.inl (by decide)
        have e0 : F (setF (svM M sv) c 4 (-(F (svM M sv) c 4))) c 0 = F (svM M sv) c 0 := F_nk (by decide)
        have e3 : F (setF (svM M sv) c 4 (-(F (svM M sv) c 4))) c 3 = F (svM M sv) c 3 := F_nk (by decide)
        have e4 : F (setF (svM M sv) c 4 (-(F (svM M sv) c 4))) c 4 = -(F (svM M sv) c 4) := F_same
        have e7 : F (setF (svM M sv) c 4 (-(F (svM M sv) c 4))) c 7 = F (svM M sv) c 7 := F_nk (by decide)
        have hst := cStepsTo_e hr hcn ⟨a, ha, by rw [e0]; exact ea⟩ (by rw [e3]; exact h3') (by rw [e4]; exact hneg)
        simp only [if_neg h1, k1, k2, fX1_changeWay, rd20 hc4, wr20 hc4, k4.f hcn 4 (by decide), hst, of4 hc4, of3 hc4, sets4 hc4, stepsTo_e hc4, Option.bind_some]
        refine OutP_rec _ k3 (fun j hj => setF_hi hc4 (by decide) (by omega)) hr (k5.at (c := c) (setF_lo (by decide)) (setF_lo (by decide)) (fun c' e k hk => F_nc e (by decide) hk) (fun _ => ?_))
        refine ⟨by rw [e0]; exact ⟨a, ha, ea⟩, by rw [e3]; exact h3, by rw [e4]; exact Or.inr hneg, ?_, by rw [e7]; exact h7⟩
        rw [e4]
        right
        rcases hneg with q | q <;> rw [q] <;> decide
    · simp only [if_neg h2]
      exact OutP_err h _
  · simp only [decide_eq_false hc]
    exact OutP_err h _
theorem tick_loops (hfu : 12 < fu) (hR : Rel R M n) (hW : WF M n) (w : Nat) (hw : w < 2 ^ 31) (hwf : w < fu) (HR' : Nat → Int32) (a b SV' : Int32) : ∃ X', lp (fX3_tick_L45 fu HR' a b (nI w)) fu (R, (0 : Int32)) = some (itM M n w 0, X', HR', a, b) ∧ lp (fX4_tick_L36 fu SV' (nI w)) fu (M, (0 : Int32)) = some (itM M n w 0, itM M n w, SV') ∧ Rel X' (itM M n w) n := by
  have hn4 := hR.1
  have h2 : M 2 = nI n := hR.2.2.1
  have hm : lp (fX4_tick_L36 fu SV' (nI w)) fu (M, (0 : Int32)) = some (itM M n w 0, itM M n w, SV') := by
    refine lp_go (body := fX4_tick_L36 fu SV' (nI w)) (fun i => (itM M n i, nI i)) w _ hwf ?_ ?_
    · intro i hi
      unfold fX4_tick_L36
      have ht : fX4_ticks fu (itM M n i) = some (itM M n (i + 1)) := ticks_e hfu hn4 (by rw [itM_lo (by decide) (by decide)]; exact h2)
      simp only [if_neg (q_nle hi hw), ht, Option.bind_some, nI_1]
    · unfold fX4_tick_L36
      simp only [if_pos (q_le (Nat.le_refl w) hw), rdm0, Option.bind_some]
  have hs : ∀ i, i < w → ∀ s : (Nat → Int32) × Int32, (Rel s.1 (itM M n i) n ∧ s.2 = nI i) → ∃ s', fX3_tick_L45 fu HR' a b (nI w) s = some (.inl s') ∧ (Rel s'.1 (itM M n (i + 1)) n ∧ s'.2 = nI (i + 1)) := by
    rintro i hi ⟨Y, t⟩ ⟨q1, q2⟩
    dsimp only at q1 q2
    subst q2
    obtain ⟨Y1, p1, p2⟩ := cPass_e q1 (itM_WF hW i) (fu := fu) hfu
    unfold fX3_tick_L45
    simp only [if_neg (q_nle hi hw), p1, Option.bind_some, nI_1]
    exact ⟨_, rfl, p2, rfl⟩
  have hx : ∀ s : (Nat → Int32) × Int32, (Rel s.1 (itM M n w) n ∧ s.2 = nI w) → ∃ r, fX3_tick_L45 fu HR' a b (nI w) s = some (.inr r) ∧ ∃ X', r = (itM M n w 0, X', HR', a, b) ∧ Rel X' (itM M n w) n := by
    rintro ⟨Y, t⟩ ⟨q1, q2⟩
    dsimp only at q1 q2
    subst q2
    unfold fX3_tick_L45 fX1_now
    simp only [if_pos (q_le (Nat.le_refl w) hw), rdk0, q1.2.2.2.1, Option.bind_some]
    exact ⟨_, rfl, Y, rfl, q1⟩
  obtain ⟨r, h1, X', h3, h4⟩ := lp_ex (body := fX3_tick_L45 fu HR' a b (nI w)) (fun i (s : (Nat → Int32) × Int32) => Rel s.1 (itM M n i) n ∧ s.2 = nI i) (fun r => ∃ X', r = (itM M n w 0, X', HR', a, b) ∧ Rel X' (itM M n w) n) w hs hx w fu 0 (R, (0 : Int32)) (by omega) hwf ⟨hR, rfl⟩
  exact ⟨X', by rw [h1, h3], hm, h4⟩
theorem tick_pair (hfu : 200 < fu) (h : INV R HR HS HN M SV) (x1 : Int32) : OutP (fX3_tick fu R HR HS HN x1) (fX4_tick fu M SV x1) := by
  obtain ⟨n, p, sv, hR, hW, hH, rfl, rfl, rfl⟩ := id h
  unfold fX3_tick fX4_tick fX1_now
  simp only [if_in2, in_e, rdk0, rdm0, hR.2.2.2.1, Option.bind_some]
  by_cases hc : (1 : Int32).toInt ≤ x1.toInt ∧ x1.toInt ≤ (200 : Int32).toInt
  · have hc' : 1 ≤ x1.toInt ∧ x1.toInt ≤ 200 := hc
    obtain ⟨w, hw, rfl⟩ := of_toInt (x := x1) (n := 201) (by omega) (by decide)
    simp only [decide_eq_true hc, if_true]
    by_cases h1 : M 0 + nI w ≤ (100000 : Int32)
    · obtain ⟨HR', k1, k2, k3, k4, k5⟩ := keep_pair (fu := fu) (by omega) hR hW hH
      obtain ⟨X', t1, t2, t3⟩ := tick_loops (fu := fu) (by omega) k4 k5 w (by omega) (by omega) HR' (nI (min (sv + 1) 5)) (nI ((p + 1) % 5)) (nI (min (sv + 1) 5))
      simp only [if_pos h1, k1, k2, t1, t2, Option.bind_some]
      exact OutP_rec _ k3 (fun j hj => itM_hi hR.1 (by omega) w) t3 (itM_WF k5 w)
    · simp only [if_neg h1]
      exact OutP_err h _
  · simp only [decide_eq_false hc]
    exact OutP_err h _
theorem removeArc_pair (hfu : 128 < fu) (h : INV R HR HS HN M SV) (x1 x2 : Int32) : OutP (fX3_removeArc R HR HS HN x1 x2) (fX4_removeArc fu M SV x1 x2) := by
  obtain ⟨n, p, sv, hR, hW, hH, rfl, rfl, rfl⟩ := id h
  unfold fX3_removeArc fX4_removeArc
  simp only [cHasCrane_e hR, mIsCrane_e hR.1 hR.2.2.1, cIsZone_e, mIsZone_e, Option.bind_some]
  by_cases hc : 0 ≤ x1.toInt ∧ x1.toInt < n
  · obtain ⟨c, hcn, rfl⟩ := of_toInt hc (by have := hR.1; omega)
    have hc4 := hR.lt hcn
    simp only [decide_eq_true hc, if_true]
    by_cases hz : 0 ≤ x2.toInt ∧ x2.toInt < 6
    · obtain ⟨z, hz6, rfl⟩ := of_toInt (n := 6) hz (by decide)
      obtain ⟨HR', k1, k2, k3, k4, k5⟩ := keep_pair hfu hR hW hH
      have hF : F (svM M sv) c (9 + 2 * z) = F M c (9 + 2 * z) := svM_lo (by omega)
      have hA : hasA (svM M sv) c z = hasA M c z := by unfold hasA; rw [hF]
      have hca : fX1_hasArc R (nI c) (nI z) = some (hasA M c z) := by
        unfold fX1_hasArc fX1_firstOf hasA
        simp only [rd44 hc4 hz6, hR.f hcn (9 + 2 * z) (by omega), Option.bind_some]
        split <;> rfl
      have hs1 := sets_n (M := svM M sv) (v := (-100 : Int32)) hc4 (show 9 + 2 * z < 21 by omega)
      have hs2 := sets_n (M := setF (svM M sv) c (9 + 2 * z) (-100)) (v := (-100 : Int32)) hc4 (show 9 + 2 * z + 1 < 21 by omega)
      have hr := (k4.set (k := 9 + 2 * z) (-100) hcn (by omega)).set (k := 9 + 2 * z + 1) (-100) hcn (by omega)
      simp only [decide_eq_true hz, if_true, k1, k2, hca, hasArc_e hc4 hz6, hA, q_arc, nI_1, hs1, hs2, fX1_setLimits, wr44 hc4 hz6, wr68 hc4 hz6, Option.bind_some]
      have hw := (k5.setO (c := c) (k := 9 + 2 * z) (v := -100) (by omega) (by omega) (by omega) (by omega) (by omega)).setO (c := c) (k := 9 + 2 * z + 1) (v := -100) (by omega) (by omega) (by omega) (by omega) (by omega)
      have hh : ∀ j, 128 ≤ j → setF (setF (svM M sv) c (9 + 2 * z) (-100)) c (9 + 2 * z + 1) (-100) j = svM M sv j := fun j hj => by rw [setF_hi hc4 (by omega) (by omega), setF_hi hc4 (by omega) (by omega)]
      split
      · exact OutP_rec _ k3 hh hr hw
      · exact OutP_rec _ k3 hh hr hw
    · simp only [decide_eq_false hz]
      exact OutP_err h _
  · simp only [decide_eq_false hc]
    exact OutP_err h _
end AIM
