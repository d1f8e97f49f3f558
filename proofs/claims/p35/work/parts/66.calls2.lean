/-! p35: the class's calls as plain functions of the state, more of them -/
section CALLS2
variable {R HR M T : Nat → Int32} {HS HN : Int32} {fu n c : Nat}
def arcM (M : Nat → Int32) (c z a b : Nat) : Nat → Int32 := setF (setF M c (9 + 2 * z) (nI a)) c (9 + 2 * z + 1) (nI b)
theorem a_arc : ∀ a, a < 36 → ∀ b, b < 36 → ¬ jrem ((nI b - nI a) + (36 : Int32)) (36 : Int32) + (1 : Int32) < (-100 : Int32) := by decide +kernel
theorem setArc_n (hR : Rel R M n) (hc : ¬ c < n) (h4 : c < 4) (x y z : Int32) : fX3_setArc fu R T HR HS HN (nI c) x y z = some ((-101 : Int32), R, T, HR, HS, HN) := by
  unfold fX3_setArc
  rw [hasC_n hR hc h4]
  rfl
theorem setArc_l (hR : Rel R M n) (hc : c < n) {z a b : Nat} (hz : z < 6) (ha : a < 36) (hb : b < 36) (hl : lft M c = true) : fX3_setArc fu R T HR HS HN (nI c) (nI z) (nI a) (nI b) = some ((-103 : Int32), R, T, HR, HS, HN) := by
  unfold fX3_setArc
  rw [hasC_y hR hc, Option.bind_some, if_pos rfl, zon_y hz, Option.bind_some, if_pos rfl, ang_y ha, Option.bind_some, if_pos rfl, ang_y hb, Option.bind_some, if_pos rfl, cIsLeft_e hR hc, Option.bind_some, if_pos hl]
theorem would_e (hR : Rel R M n) (hc : c < n) {z a b : Nat} (hz : z < 6) (hfu : 12 < fu) : ∃ T', fX3_wouldMakeConflict fu R T (nI c) (nI z) (nI a) (nI b) = some (cnf (arcM M c z a b) n z && !cnf M n z, T') := by
  have hc4 := hR.lt hc
  have hk1 : 9 + 2 * z < 21 := by omega
  have hk2 : 9 + 2 * z + 1 < 21 := by omega
  obtain ⟨T1, t1, t2⟩ := copyFrom_e T R
  have hT1 : Rel T1 M n := hR.agreeX t2
  have hT2 : Rel (upd (upd T1 (ix c (9 + 2 * z)) (nI a)) (ix c (9 + 2 * z + 1)) (nI b)) (arcM M c z a b) n := (hT1.set (k := 9 + 2 * z) (nI a) hc hk1).set (k := 9 + 2 * z + 1) (nI b) hc hk2
  refine ⟨upd (upd T1 (ix c (9 + 2 * z)) (nI a)) (ix c (9 + 2 * z + 1)) (nI b), ?_⟩
  unfold fX3_wouldMakeConflict fX1_setLimits
  simp only [t1, wr44 hc4 hz, wr68 hc4 hz, cIsConflict_e hT2 hfu hz, cIsConflict_e hR hfu hz, Option.bind_some]
  cases cnf (arcM M c z a b) n z <;> cases cnf M n z <;> rfl
theorem setArc_b (hR : Rel R M n) (hc : c < n) {z a b : Nat} (hz : z < 6) (ha : a < 36) (hb : b < 36) (hfu : 12 < fu) (hl : ¬ lft M c = true) (hw : (cnf (arcM M c z a b) n z && !cnf M n z) = true) : ∃ T', fX3_setArc fu R T HR HS HN (nI c) (nI z) (nI a) (nI b) = some ((-103 : Int32), R, T', HR, HS, HN) := by
  obtain ⟨T', w1⟩ := would_e (T := T) hR hc (a := a) (b := b) hz hfu
  refine ⟨T', ?_⟩
  unfold fX3_setArc
  rw [hasC_y hR hc, Option.bind_some, if_pos rfl, zon_y hz, Option.bind_some, if_pos rfl, ang_y ha, Option.bind_some, if_pos rfl, ang_y hb, Option.bind_some, if_pos rfl, cIsLeft_e hR hc, Option.bind_some, if_neg hl, w1, Option.bind_some, if_pos hw]
theorem setArc_x (hR : Rel R M n) (hH : HI HS HN) (hc : c < n) {z a b : Nat} (hz : z < 6) (ha : a < 36) (hb : b < 36) (hfu : 12 < fu) (hl : ¬ lft M c = true) (hw : (cnf (arcM M c z a b) n z && !cnf M n z) = false) : ∃ (v : Int32) (R' T' HR' : Nat → Int32) (HS' HN' : Int32), fX3_setArc fu R T HR HS HN (nI c) (nI z) (nI a) (nI b) = some (v, R', T', HR', HS', HN') ∧ ¬ v < -100 ∧ KP HR' HS' HN' M n ∧ Rel R' (arcM M c z a b) n := by
  have hc4 := hR.lt hc
  obtain ⟨HR', HS', HN', k1, k2⟩ := keep_n (HR := HR) hR hH
  obtain ⟨T', w1⟩ := would_e (T := T) hR hc (a := a) (b := b) hz hfu
  refine ⟨jrem ((nI b - nI a) + (36 : Int32)) (36 : Int32) + (1 : Int32), _, T', HR', HS', HN', ?_, a_arc a ha b hb, k2, (hR.set (k := 9 + 2 * z) (nI a) hc (by omega)).set (k := 9 + 2 * z + 1) (nI b) hc (by omega)⟩
  unfold fX3_setArc
  rw [hasC_y hR hc, Option.bind_some, if_pos rfl, zon_y hz, Option.bind_some, if_pos rfl, ang_y ha, Option.bind_some, if_pos rfl, ang_y hb, Option.bind_some, if_pos rfl, cIsLeft_e hR hc, Option.bind_some, if_neg hl, w1, Option.bind_some, if_neg (by rw [hw]; exact Bool.false_ne_true), k1]
  simp only [fX1_setLimits, fX3_stepsClockwise, wr44 hc4 hz, wr68 hc4 hz, Option.bind_some]
theorem leave_n (hR : Rel R M n) (hc : ¬ c < n) (h4 : c < 4) (x : Bool) : fX3_leave fu R HR HS HN (nI c) x = some ((-101 : Int32), R, HR, HS, HN) := by
  unfold fX3_leave
  rw [hasC_n hR hc h4]
  rfl
theorem leave_b (hR : Rel R M n) (hc : c < n) (hfu : 12 < fu) (hl : ¬ lft M c = true) (hb : bad M n c = true) : fX3_leave fu R HR HS HN (nI c) true = some ((-103 : Int32), R, HR, HS, HN) := by
  unfold fX3_leave
  rw [hasC_y hR hc, Option.bind_some, if_pos rfl, cIsLeft_e hR hc, Option.bind_some, if_pos rfl, if_neg hl, cCanLeave_e hR hc hfu, Option.bind_some, hb, if_neg (by decide)]
def lvM (M : Nat → Int32) (c : Nat) : Nat → Int32 := setF (noT M c) c 7 1
theorem leave_x (hR : Rel R M n) (hH : HI HS HN) (hc : c < n) (hfu : 12 < fu) (h : lft M c = true ∨ bad M n c = false) : ∃ (R' HR' : Nat → Int32) (HS' HN' : Int32), fX3_leave fu R HR HS HN (nI c) true = some ((if lft M c = true then (1 : Int32) else 0), R', HR', HS', HN') ∧ KP HR' HS' HN' M n ∧ Rel R' (lvM M c) n := by
  have hc4 := hR.lt hc
  obtain ⟨HR', HS', HN', k1, k2⟩ := keep_n (HR := HR) hR hH
  obtain ⟨X', d1, d2⟩ := cDrop_e hR hc
  refine ⟨upd X' (ix c 7) 1, HR', HS', HN', ?_, k2, d2.set (k := 7) 1 hc (by decide)⟩
  unfold fX3_leave fX1_leaveToWind
  rw [hasC_y hR hc, Option.bind_some, if_pos rfl, cIsLeft_e hR hc, Option.bind_some, if_pos rfl]
  by_cases hl : lft M c = true
  · simp only [if_pos hl, k1, d1, wr32 hc4, Option.bind_some, if_true]
  · have hb : bad M n c = false := h.elim (fun q => absurd q hl) id
    simp only [if_neg hl, cCanLeave_e hR hc hfu, hb, Bool.not_false, k1, d1, wr32 hc4, Option.bind_some, if_true]
theorem leave_f (hR : Rel R M n) (hH : HI HS HN) (hc : c < n) : ∃ (R' HR' : Nat → Int32) (HS' HN' : Int32), fX3_leave fu R HR HS HN (nI c) false = some ((if lft M c = true then (1 : Int32) else 0), R', HR', HS', HN') ∧ KP HR' HS' HN' M n ∧ Rel R' (setF M c 7 0) n := by
  have hc4 := hR.lt hc
  obtain ⟨HR', HS', HN', k1, k2⟩ := keep_n (HR := HR) hR hH
  refine ⟨upd R (ix c 7) 0, HR', HS', HN', ?_, k2, hR.set (k := 7) 0 hc (by decide)⟩
  unfold fX3_leave fX1_takeBack
  rw [hasC_y hR hc, Option.bind_some, if_pos rfl, cIsLeft_e hR hc, Option.bind_some, if_neg (by decide), k1]
  simp only [wr32 hc4, Option.bind_some, Bool.false_eq_true, if_false]
  split <;> rfl
theorem itM_0 (M : Nat → Int32) (n i : Nat) : itM M n i 0 = M 0 + nI i := by
  induction i with
  | zero =>
    show M 0 = M 0 + nI 0
    rw [nI_0, Int32.add_zero]
  | succ i ih =>
    show tickM (itM M n i) n 0 = _
    rw [tickM_0, ih, nI_succ, Int32.add_assoc]
theorem tick_loop (hfu : 12 < fu) (hR : Rel R M n) (hW : WF M n) (w : Nat) (hw : w < 2 ^ 31) (hwf : w < fu) (HR' : Nat → Int32) (a b : Int32) : ∃ X', lp (fX3_tick_L45 fu HR' a b (nI w)) fu (R, (0 : Int32)) = some (itM M n w 0, X', HR', a, b) ∧ Rel X' (itM M n w) n := by
  have hn4 := hR.1
  have hs : ∀ i, i < w → ∀ s : (Nat → Int32) × Int32, (Rel s.1 (itM M n i) n ∧ s.2 = nI i) → ∃ s', fX3_tick_L45 fu HR' a b (nI w) s = some (.inl s') ∧ (Rel s'.1 (itM M n (i + 1)) n ∧ s'.2 = nI (i + 1)) := by
    rintro i hi ⟨Y, t⟩ ⟨q1, q2⟩
    dsimp only at q1 q2
    subst q2
    obtain ⟨Y1, p1, p2⟩ := cPass_e q1 (itM_WF hW i) (fu := fu) hfu
    unfold fX3_tick_L45
    simp only [if_neg (q_nle hi hw), p1, Option.bind_some, nI_1]
    exact ⟨_, rfl, p2, rfl⟩
  have hx : ∀ s : (Nat → Int32) × Int32, (Rel s.1 (itM M n w) n ∧ s.2 = nI w) → ∃ r, fX3_tick_L45 fu HR' a b (nI w) s = some (.inr r) ∧ ∃ X', r = (itM M n w 0, X', HR', a, b) ∧ Rel X' (itM M n w) n := by
    rintro ⟨Y, t⟩ ⟨q1, q2⟩
    dsimp only at q1 q2
    subst q2
    unfold fX3_tick_L45 fX1_now
    simp only [if_pos (q_le (Nat.le_refl w) hw), rdk0, q1.2.2.2.1, Option.bind_some]
    exact ⟨_, rfl, Y, rfl, q1⟩
  obtain ⟨r, h1, X', h3, h4⟩ := lp_ex (body := fX3_tick_L45 fu HR' a b (nI w)) (fun i (s : (Nat → Int32) × Int32) => Rel s.1 (itM M n i) n ∧ s.2 = nI i) (fun r => ∃ X', r = (itM M n w 0, X', HR', a, b) ∧ Rel X' (itM M n w) n) w hs hx w fu 0 (R, (0 : Int32)) (by omega) hwf ⟨hR, rfl⟩
  exact ⟨X', by rw [h1, h3], h4⟩
theorem tick_x (hR : Rel R M n) (hW : WF M n) (hH : HI HS HN) (hfu : 200 < fu) {w t : Nat} (hw1 : 1 ≤ w) (hw : w ≤ 200) (ht : M 0 = nI t) (htw : t + w ≤ 100000) : ∃ (R' HR' : Nat → Int32) (HS' HN' : Int32), fX3_tick fu R HR HS HN (nI w) = some (nI (t + w), R', HR', HS', HN') ∧ KP HR' HS' HN' M n ∧ Rel R' (itM M n w) n := by
  obtain ⟨HR', HS', HN', k1, k2⟩ := keep_n (HR := HR) hR hH
  obtain ⟨X', t1, t2⟩ := tick_loop (fu := fu) (by omega) hR hW w (by omega) (by omega) HR' HS' HN'
  have h0 : itM M n w 0 = nI (t + w) := by rw [itM_0, ht, nI_add]
  refine ⟨X', HR', HS', HN', ?_, k2, t2⟩
  unfold fX3_tick fX1_now
  rw [if_neg (show ¬ nI w < (1 : Int32) from q_nlt (b := 1) hw1 (by omega)), if_pos (show nI w ≤ (200 : Int32) from q_le (b := 200) hw (by decide)), rdk0, hR.2.2.2.1, ht, Option.bind_some, Option.bind_some, nI_add, if_pos (show nI (t + w) ≤ (100000 : Int32) from q_le (b := 100000) htw (by decide)), k1, Option.bind_some, t1, h0]
def ovM (M : Nat → Int32) (c q : Nat) (x s : Int32) : Nat → Int32 := upd (upd (upd (upd (upd (stp M c) (88 + (q * 4 + 0)) (stp M c 0)) (88 + (q * 4 + 1)) (nI c)) (88 + (q * 4 + 2)) x) (88 + (q * 4 + 3)) s) 3 (nI (q + 1))
theorem override_b (hR : Rel R M n) (hc : c < n) {x : Int32} (hx1 : ¬ x < 1) (hx9 : x ≤ 9) (h : ¬ hasT M c = true ∨ ons M c = true) : fX3_override fu R HR HS HN (nI c) x = some ((-103 : Int32), R, HR, HS, HN) := by
  unfold fX3_override
  rw [hasC_y hR hc, Option.bind_some, if_pos rfl, if_neg hx1, if_pos hx9, cHasTarget_e hR hc, Option.bind_some]
  by_cases h2 : hasT M c = true
  · rw [if_pos h2, cIsOnStep_e hR hc, Option.bind_some, if_pos (h.elim (fun q => absurd h2 q) id)]
  · rw [if_neg h2]
theorem override_x (hR : Rel R M n) (hH : HI HS HN) (hfu : 12 < fu) (hc : c < n) {x : Int32} (hx1 : ¬ x < 1) (hx9 : x ≤ 9) (h2 : hasT M c = true) (h1 : ¬ ons M c = true) {q : Nat} (hq : q < 10) (h3 : M 3 = nI q) : ∃ (R' HR' : Nat → Int32) (HS' HN' : Int32), fX3_override fu R HR HS HN (nI c) x = some (msk (cnf (stp M c) n) 6, R', HR', HS', HN') ∧ HI HS' HN' ∧ Rel R' (ovM M c q x (msk (cnf (stp M c) n) 6)) n := by
  obtain ⟨HR', HS', HN', k1, k2⟩ := keep_n (HR := HR) hR hH
  obtain ⟨X1, s1, s2⟩ := cEndStep_e hR hc
  have hX3 : X1 3 = nI q := by rw [s2.2.2.2.2.2.1, stp_lo (by decide)]; exact h3
  have r1 := note_Rel s2 (q := q * 4 + 0) (by omega) (stp M c 0)
  have r2 := note_Rel r1 (q := q * 4 + 1) (by omega) (nI c)
  have r3 := note_Rel r2 (q := q * 4 + 2) (by omega) x
  have r4 := note_Rel r3 (q := q * 4 + 3) (by omega) (msk (cnf (stp M c) n) 6)
  have r5 := upd3_Rel r4 (nI (q + 1))
  have hX : noteX X1 q (nI c) x (msk (cnf (stp M c) n) 6) = upd (upd (upd (upd (upd X1 (92 + (q * 4 + 0)) (stp M c 0)) (92 + (q * 4 + 1)) (nI c)) (92 + (q * 4 + 2)) x) (92 + (q * 4 + 3)) (msk (cnf (stp M c) n) 6)) 3 (nI (q + 1)) := by
    unfold noteX
    rw [s2.2.2.2.1]
  have o3 : (Option.bind (fX0_keep HR HS HN R) fun v15 => Option.bind (fX1_endStep R (nI c)) fun v17 => Option.bind (fX1_conflictSet fu v17) fun v19 => Option.bind (fX1_putNote v17 (nI c) x v19) fun v21 => some (v19, v21, v15.1, v15.2.1, v15.2.2)) = some (msk (cnf (stp M c) n) 6, noteX X1 q (nI c) x (msk (cnf (stp M c) n) 6), HR', HS', HN') := by
    refine obs k1 ?_
    refine obs s1 ?_
    refine obs (cConflictSet_e s2 hfu) ?_
    refine obs (putNote_e hq hX3 _ _ _) ?_
    rfl
  refine ⟨noteX X1 q (nI c) x (msk (cnf (stp M c) n) 6), HR', HS', HN', ?_, k2.hi, by rw [hX]; exact r5⟩
  unfold fX3_override fX1_noteCount
  rw [hasC_y hR hc, Option.bind_some, if_pos rfl, if_neg hx1, if_pos hx9, cHasTarget_e hR hc, Option.bind_some, if_pos h2, cIsOnStep_e hR hc, Option.bind_some, if_neg h1, rdk3, hR.2.2.2.2.2.1, h3, Option.bind_some, Option.bind_some, if_pos (show nI q < (10 : Int32) from q_lt (b := 10) hq (by decide)), o3]
/-! calls that read -/
theorem crane_x (hR : Rel R M n) (hc : c < n) (hfu : 12 < fu) {w : Nat} (hw : w < 10) : fX3_crane fu R (nI c) (nI w) = some (prp M c w) := by
  unfold fX3_crane
  rw [hasC_y hR hc, Option.bind_some, if_pos rfl, if_neg (show ¬ nI w < (0 : Int32) from nI_pos (by omega)), if_pos (show nI w < (10 : Int32) from q_lt (b := 10) hw (by decide)), cProp_e hR hc hfu hw]
  rfl
theorem crane_k {k : Nat} (hR : Rel R M n) (hc : c < n) (hfu : 12 < fu) (hk : k < 8) : fX3_crane fu R (nI c) (nI k) = some (F M c k) := by
  rw [crane_x hR hc hfu (show k < 10 by omega)]
  unfold prp
  rw [if_neg (show ¬ k = 8 by omega), if_neg (show ¬ k = 9 by omega)]
theorem crane8 (hR : Rel R M n) (hc : c < n) (hfu : 12 < fu) : fX3_crane fu R (nI c) (8 : Int32) = some (msk (occ M c) 6) := crane_x (w := 8) hR hc hfu (by decide)
theorem crane9 (hR : Rel R M n) (hc : c < n) (hfu : 12 < fu) : fX3_crane fu R (nI c) (9 : Int32) = some (F M c 8) := crane_x (w := 9) hR hc hfu (by decide)
theorem crane0 (hR : Rel R M n) (hc : c < n) (hfu : 12 < fu) : fX3_crane fu R (nI c) (0 : Int32) = some (F M c 0) := crane_k (k := 0) hR hc hfu (by decide)
theorem crane1 (hR : Rel R M n) (hc : c < n) (hfu : 12 < fu) : fX3_crane fu R (nI c) (1 : Int32) = some (F M c 1) := crane_k (k := 1) hR hc hfu (by decide)
theorem crane3 (hR : Rel R M n) (hc : c < n) (hfu : 12 < fu) : fX3_crane fu R (nI c) (3 : Int32) = some (F M c 3) := crane_k (k := 3) hR hc hfu (by decide)
theorem crane4 (hR : Rel R M n) (hc : c < n) (hfu : 12 < fu) : fX3_crane fu R (nI c) (4 : Int32) = some (F M c 4) := crane_k (k := 4) hR hc hfu (by decide)
theorem crane5 (hR : Rel R M n) (hc : c < n) (hfu : 12 < fu) : fX3_crane fu R (nI c) (5 : Int32) = some (F M c 5) := crane_k (k := 5) hR hc hfu (by decide)
theorem crane6 (hR : Rel R M n) (hc : c < n) (hfu : 12 < fu) : fX3_crane fu R (nI c) (6 : Int32) = some (F M c 6) := crane_k (k := 6) hR hc hfu (by decide)
theorem crane7 (hR : Rel R M n) (hc : c < n) (hfu : 12 < fu) : fX3_crane fu R (nI c) (7 : Int32) = some (F M c 7) := crane_k (k := 7) hR hc hfu (by decide)
theorem lhasT (hR : Rel R M n) (hc : c < n) (hfu : 12 < fu) : fL_hasTarget fu R (nI c) = some (hasT M c) := by
  unfold fL_hasTarget hasT
  rw [crane3 hR hc hfu, Option.bind_some]
  split <;> rfl
def need (M : Nat → Int32) (c : Nat) : Int32 := if hasT M c = true then (stTo M c (F M c 3) (F M c 4) * F M c 1) - F M c 5 else 0
theorem hasT_iff : hasT M c = true ↔ ¬ F M c 3 = -100 := by
  unfold hasT
  split <;> simp_all
theorem needs_x (hR : Rel R M n) (hW : WF M n) (hc : c < n) : fX3_needs R (nI c) = some (need M c) := by
  have hc4 := hR.lt hc
  unfold fX3_needs need
  rw [hasC_y hR hc, Option.bind_some, if_pos rfl, cHasTarget_e hR hc, Option.bind_some]
  by_cases h2 : hasT M c = true
  · rw [if_pos h2, if_pos h2]
    obtain ⟨ha, h3, h4, h5, h7⟩ := hW.2.2 c hc
    have hT := hasT_iff.mp h2
    have h3' : ∃ t, t < 36 ∧ F M c 3 = nI t := h3.elim (fun q => absurd q hT) id
    have h4' : ¬ F M c 4 = 0 := h5.elim (fun q => absurd q hT) id
    have h4'' : F M c 4 = 1 ∨ F M c 4 = -1 := h4.elim (fun q => absurd q h4') id
    unfold fX1_ticksToTarget
    rw [cStepsTo_e hR hc ha h3' h4'', rd8 hc4, rd24 hc4, hR.f hc 1 (by decide), hR.f hc 5 (by decide), Option.bind_some, Option.bind_some, Option.bind_some]
    rfl
  · rw [if_neg h2, if_neg h2]
theorem blocker_x (hR : Rel R M n) (hc : c < n) (hfu : 12 < fu) : fX3_blocker fu R (nI c) = some (if blk M n c = true then inw M n c else (-100 : Int32)) := by
  unfold fX3_blocker
  rw [hasC_y hR hc, Option.bind_some, if_pos rfl, cBlockerOf_e hR hc hfu]
  rfl
theorem cycle_x (hR : Rel R M n) (hfu : 12 < fu) : fX3_cycle fu R = some (msk (fun c => cyc M n c 4 c) n) := by
  have hn4 := hR.1
  unfold fX3_cycle
  have : fX1_cycleSet fu R = some (msk (fun c => cyc M n c 4 c) n) := by
    refine lp_go (body := fX1_cycleSet_L4 fu R) (fun j => (msk (fun c => cyc M n c 4 c) j, nI j)) n _ (by omega) ?_ ?_
    · intro j hj
      have hb : fX1_blockersLeadBackTo fu R (nI j) = some (cyc M n j 4 j) := cCyc_loop hR hj hfu 4 0 fu j (by decide) (by omega) hj
      unfold fX1_cycleSet_L4
      simp only [rdk2, hR.2.1, Option.bind_some, if_neg (q_nle hj (show n < 2 ^ 31 by omega)), hb, nI_1, msk_step _ j (show j < 6 by omega)]
      split <;> rfl
    · unfold fX1_cycleSet_L4
      simp only [rdk2, hR.2.1, Option.bind_some, if_pos (q_le (Nat.le_refl n) (show n < 2 ^ 31 by omega))]
  rw [this]
  rfl
theorem conflicts_x (hR : Rel R M n) (hfu : 12 < fu) : fX3_conflicts fu R = some (msk (cnf M n) 6) := by
  unfold fX3_conflicts
  rw [cConflictSet_e hR hfu]
  rfl
theorem occupants_x (hR : Rel R M n) (hfu : 12 < fu) {z : Nat} (hz : z < 6) : fX3_occupants fu R (nI z) = some (msk (fun c => occ M c z) n) := by
  unfold fX3_occupants
  rw [zon_y hz, Option.bind_some, if_pos rfl, cOccupants_e hR hfu hz]
  rfl
theorem arc_x (hR : Rel R M n) (hc : c < n) {z : Nat} (hz : z < 6) : fX3_arc R (nI c) (nI z) false = some (F M c (9 + 2 * z)) := by
  unfold fX3_arc fX1_firstOf
  rw [hasC_y hR hc, Option.bind_some, if_pos rfl, zon_y hz, Option.bind_some, if_pos rfl, if_neg (by decide), rd44 (hR.lt hc) hz, hR.f hc (9 + 2 * z) (by omega)]
  rfl
theorem cranes_x (hR : Rel R M n) : fX3_cranes R = some (nI n) := by
  unfold fX3_cranes fX1_craneCount
  rw [rdk2, hR.2.1]
  rfl
theorem time_x (hR : Rel R M n) : fX3_time R = some (M 0) := by
  unfold fX3_time fX1_now
  rw [rdk0, hR.2.2.2.1]
  rfl
theorem notes_x (hR : Rel R M n) : fX3_notes R = some (M 3) := by
  unfold fX3_notes fX1_noteCount
  rw [rdk3, hR.2.2.2.2.2.1]
  rfl
theorem note_x (hR : Rel R M n) {q i w : Nat} (hq : q ≤ 10) (h3 : M 3 = nI q) (hi : i < q) (hw : w < 4) : fX3_note R (nI i) (nI w) = some (M (88 + (i * 4 + w))) := by
  have r1 : rdA R 132 (((92 : Int32) + (nI i * (4 : Int32))) + nI w) = some (M (88 + (i * 4 + w))) := by
    show rdA R 132 ((nI 92 + (nI i * nI 4)) + nI w) = _
    rw [pk_mul, nI_add, nI_add, rd_n (by omega) (by decide), Nat.add_assoc, hR.2.2.2.2.2.2.1 (i * 4 + w) (by omega)]
  unfold fX3_note fX1_noteCount fX1_partOfNote
  rw [if_neg (nI_pos (by omega)), rdk3, hR.2.2.2.2.2.1, h3, Option.bind_some, Option.bind_some, if_pos (q_lt hi (by omega)), if_neg (nI_pos (by omega)), if_pos (show nI w < (4 : Int32) from q_lt (b := 4) hw (by decide)), r1]
  rfl
theorem done_x (hR : Rel R M n) (hW : WF M n) (hc : c < n) (hfu : 2000 < fu) : ∃ T', fX3_done fu R T (nI c) = some (vf M n (gOne c) 0 1000, T') := by
  obtain ⟨T', h⟩ := doneOne_e (T := T) hfu hR hW hc
  refine ⟨T', ?_⟩
  unfold fX3_done
  rw [hasC_y hR hc, Option.bind_some, if_pos rfl, h]
  rfl
theorem waits_x (hR : Rel R M n) (hW : WF M n) (hc : c < n) (hfu : 2000 < fu) {w : Nat} (hw1 : 1 ≤ w) (hw : w ≤ 1000) : ∃ T', fX3_waits fu R T (nI c) (nI w) = some (F (itM M n w) c 6 - F M c 6, T') := by
  obtain ⟨T1, t1, t2⟩ := copyFrom_e T R
  have hRk : Rel T1 M n := hR.agreeX t2
  obtain ⟨T', h1⟩ := cWaits_loop (fu := fu) (by omega) hW hc (F M c 6) w (by omega) w 0 fu T1 (by omega) (by omega) hRk
  have h1 : lp (fX3_foretoldWaits_L23 fu (nI c) (nI w) (F M c 6)) fu (T1, (0 : Int32)) = _ := h1
  refine ⟨T', ?_⟩
  unfold fX3_waits fX3_foretoldWaits
  rw [hasC_y hR hc, Option.bind_some, if_pos rfl, if_neg (show ¬ nI w < (1 : Int32) from q_nlt (b := 1) hw1 (by omega)), if_pos (show nI w ≤ (1000 : Int32) from q_le (b := 1000) hw (by decide)), t1, Option.bind_some, cWait_e hRk hc, Option.bind_some, h1]
  rfl
noncomputable def dgst (M : Nat → Int32) (n : Nat) : Int64 := d3 M n (M 3).toNatClampNeg
theorem digest_x (hR : Rel R M n) (hW : WF M n) (hfu : 50 < fu) : fX3_digest fu R = some (dgst M n) := by
  obtain ⟨q, hq, h3⟩ := hW.2.1
  have e : (M 3).toNatClampNeg = q := by rw [h3]; exact nI_clamp (by omega)
  unfold fX3_digest dgst
  rw [cHash_e hR hq h3 hfu, e]
  rfl
theorem cmp_self (v : Int64) : lg_cmp v v = 0 := by
  unfold lg_cmp
  simp
end CALLS2
