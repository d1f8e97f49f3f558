/-! the calls that only read -/
def prp (M : Nat → Int32) (c w : Nat) : Int32 := if w = 8 then msk (occ M c) 6 else if w = 9 then F M c 8 else F M c w
section READS
variable {R HR M : Nat → Int32} {HS HN SV : Int32} {fu n c : Nat}
theorem cProp_e (hR : Rel R M n) (hc : c < n) (hfu : 12 < fu) {w : Nat} (hw : w < 10) : fX1_property fu R (nI c) (nI w) = some (prp M c w) := by
  have hc4 := hR.lt hc
  have e : (4 : Int32) + (nI w * (4 : Int32)) = nI (4 + w * 4) := by
    show nI 4 + (nI w * nI 4) = _
    rw [pk_mul, nI_add]
  unfold fX1_property prp
  rw [e]
  by_cases h8 : w = 8
  · subst h8
    rw [if_pos (show nI (4 + 8 * 4) = (36 : Int32) from rfl), if_pos rfl, cZonesOcc_e hR hc hfu]
    rfl
  · rw [if_neg (show ¬ nI (4 + w * 4) = (36 : Int32) from q_ne (b := 36) (by omega) (by omega) (by decide)), if_neg h8, nI_add, rd_n (by omega) (by decide)]
    by_cases h9 : w = 9
    · subst h9
      rw [if_pos rfl, ← hR.f hc 8 (by decide), ix_8]
      rfl
    · rw [if_neg h9, ← hR.f hc w (by omega)]
      have : ix c w = 4 + w * 4 + c := by
        unfold ix
        rw [if_pos (by omega)]
        omega
      rw [this]
      rfl
theorem mProp_e (hc : c < 4) (hfu : 12 < fu) {w : Nat} (hw : w < 10) : fX4_property fu M (nI c) (nI w) = some (prp M c w) := by
  unfold fX4_property prp
  by_cases h8 : w = 8
  · subst h8
    rw [if_pos (show nI 8 = (8 : Int32) from rfl), if_pos rfl, zonesOf_e hfu hc]
    rfl
  · rw [if_neg (show ¬ nI w = (8 : Int32) from q_ne (b := 8) h8 (by omega) (by decide)), if_neg h8]
    by_cases h9 : w = 9
    · subst h9
      rw [if_pos (show nI 9 = (9 : Int32) from rfl), if_pos rfl, of8 hc]
      rfl
    · rw [if_neg (show ¬ nI w = (9 : Int32) from q_ne (b := 9) h9 (by omega) (by decide)), if_neg h9, of_n hc (by omega)]
      rfl
theorem cranes_pair (h : INV R HR HS HN M SV) : ∃ v, fX3_cranes R = some v ∧ fX4_cranes M = some v := by
  obtain ⟨n, p, sv, hR, hW, hH, -, -, -⟩ := h
  refine ⟨nI n, ?_, ?_⟩
  · unfold fX3_cranes fX1_craneCount
    rw [rdk2, hR.2.1]; rfl
  · unfold fX4_cranes
    rw [rdm2, hR.2.2.1]; rfl
theorem time_pair (h : INV R HR HS HN M SV) : ∃ v, fX3_time R = some v ∧ fX4_time M = some v := by
  obtain ⟨n, p, sv, hR, hW, hH, -, -, -⟩ := h
  refine ⟨M 0, ?_, ?_⟩
  · unfold fX3_time fX1_now
    rw [rdk0, hR.2.2.2.1]; rfl
  · unfold fX4_time
    rw [rdm0]; rfl
theorem notes_pair (h : INV R HR HS HN M SV) : ∃ v, fX3_notes R = some v ∧ fX4_notes M = some v := by
  obtain ⟨n, p, sv, hR, hW, hH, -, -, -⟩ := h
  refine ⟨M 3, ?_, ?_⟩
  · unfold fX3_notes fX1_noteCount
    rw [rdk3, hR.2.2.2.2.2.1]; rfl
  · unfold fX4_notes
    rw [rdm3]; rfl
theorem conflicts_pair (hfu : 128 < fu) (h : INV R HR HS HN M SV) : ∃ v, fX3_conflicts fu R = some v ∧ fX4_conflicts fu M = some v := by
  obtain ⟨n, p, sv, hR, hW, hH, -, -, -⟩ := h
  refine ⟨msk (cnf M n) 6, ?_, ?_⟩
  · unfold fX3_conflicts
    rw [cConflictSet_e hR (by omega)]; rfl
  · unfold fX4_conflicts
    rw [clashes_e (by omega) hR.1 hR.2.2.1]; rfl
theorem occupants_pair (hfu : 128 < fu) (h : INV R HR HS HN M SV) (x1 : Int32) : ∃ v, fX3_occupants fu R x1 = some v ∧ fX4_occupants fu M x1 = some v := by
  obtain ⟨n, p, sv, hR, hW, hH, -, -, -⟩ := h
  unfold fX3_occupants fX4_occupants
  rw [cIsZone_e, mIsZone_e, Option.bind_some, Option.bind_some]
  by_cases hz : 0 ≤ x1.toInt ∧ x1.toInt < 6
  · obtain ⟨z, hz6, rfl⟩ := of_toInt (n := 6) hz (by decide)
    rw [decide_eq_true hz, if_pos rfl, if_pos rfl, cOccupants_e hR (by omega) hz6, occupiers_e (by omega) hR.1 hR.2.2.1 hz6]
    exact ⟨_, rfl, rfl⟩
  · rw [decide_eq_false hz, if_neg (by decide), if_neg (by decide)]
    exact ⟨_, rfl, rfl⟩
theorem crane_pair (hfu : 128 < fu) (h : INV R HR HS HN M SV) (x1 x2 : Int32) : ∃ v, fX3_crane fu R x1 x2 = some v ∧ fX4_crane fu M x1 x2 = some v := by
  obtain ⟨n, p, sv, hR, hW, hH, -, -, -⟩ := h
  unfold fX3_crane fX4_crane
  rw [cHasCrane_e hR, mIsCrane_e hR.1 hR.2.2.1, Option.bind_some, Option.bind_some]
  by_cases hc : 0 ≤ x1.toInt ∧ x1.toInt < n
  · obtain ⟨c, hcn, rfl⟩ := of_toInt hc (by have := hR.1; omega)
    rw [decide_eq_true hc, if_pos rfl, if_pos rfl, in_e, if_in3, Option.bind_some]
    by_cases hw : 0 ≤ x2.toInt ∧ x2.toInt < 10
    · obtain ⟨w, hw10, rfl⟩ := of_toInt (n := 10) hw (by decide)
      have h1 : (0 : Int32).toInt ≤ (nI w).toInt ∧ (nI w).toInt < (10 : Int32).toInt := hw
      have h2 : (0 : Int32).toInt ≤ (nI w).toInt ∧ (nI w).toInt ≤ (9 : Int32).toInt := by
        show 0 ≤ (nI w).toInt ∧ (nI w).toInt ≤ 9
        omega
      rw [decide_eq_true h1, decide_eq_true h2, if_pos rfl, if_pos rfl, cProp_e hR hcn (by omega) hw10, mProp_e (hR.lt hcn) (by omega) hw10]
      exact ⟨_, rfl, rfl⟩
    · have h1 : ¬ ((0 : Int32).toInt ≤ x2.toInt ∧ x2.toInt < (10 : Int32).toInt) := hw
      have h2 : ¬ ((0 : Int32).toInt ≤ x2.toInt ∧ x2.toInt ≤ (9 : Int32).toInt) := by
        show ¬ (0 ≤ x2.toInt ∧ x2.toInt ≤ 9)
        omega
      rw [decide_eq_false h1, decide_eq_false h2, if_neg (by decide), if_neg (by decide)]
      exact ⟨_, rfl, rfl⟩
  · rw [decide_eq_false hc, if_neg (by decide), if_neg (by decide)]
    exact ⟨_, rfl, rfl⟩
theorem arc_pair (h : INV R HR HS HN M SV) (x1 x2 : Int32) (x3 : Bool) : ∃ v, fX3_arc R x1 x2 x3 = some v ∧ fX4_arc M x1 x2 x3 = some v := by
  obtain ⟨n, p, sv, hR, hW, hH, -, -, -⟩ := h
  unfold fX3_arc fX4_arc
  rw [cHasCrane_e hR, mIsCrane_e hR.1 hR.2.2.1, Option.bind_some, Option.bind_some]
  by_cases hc : 0 ≤ x1.toInt ∧ x1.toInt < n
  · obtain ⟨c, hcn, rfl⟩ := of_toInt hc (by have := hR.1; omega)
    have hc4 := hR.lt hcn
    rw [decide_eq_true hc, if_pos rfl, if_pos rfl, cIsZone_e, mIsZone_e, Option.bind_some, Option.bind_some]
    by_cases hz : 0 ≤ x2.toInt ∧ x2.toInt < 6
    · obtain ⟨z, hz6, rfl⟩ := of_toInt (n := 6) hz (by decide)
      rw [decide_eq_true hz, if_pos rfl, if_pos rfl, q_arc1, q_arc0, of_n hc4 (show 9 + 2 * z + 1 < 21 by omega), of_n hc4 (show 9 + 2 * z < 21 by omega)]
      unfold fX1_firstOf fX1_lastOf
      rw [rd44 hc4 hz6, rd68 hc4 hz6, hR.f hcn (9 + 2 * z) (by omega), hR.f hcn (9 + 2 * z + 1) (by omega)]
      cases x3
      · exact ⟨_, rfl, rfl⟩
      · exact ⟨_, rfl, rfl⟩
    · rw [decide_eq_false hz, if_neg (by decide), if_neg (by decide)]
      exact ⟨_, rfl, rfl⟩
  · rw [decide_eq_false hc, if_neg (by decide), if_neg (by decide)]
    exact ⟨_, rfl, rfl⟩
theorem needs_pair (h : INV R HR HS HN M SV) (x1 : Int32) : ∃ v, fX3_needs R x1 = some v ∧ fX4_needs M x1 = some v := by
  obtain ⟨n, p, sv, hR, hW, hH, -, -, -⟩ := h
  unfold fX3_needs fX4_needs
  rw [cHasCrane_e hR, mIsCrane_e hR.1 hR.2.2.1, Option.bind_some, Option.bind_some]
  by_cases hc : 0 ≤ x1.toInt ∧ x1.toInt < n
  · obtain ⟨c, hcn, rfl⟩ := of_toInt hc (by have := hR.1; omega)
    have hc4 := hR.lt hcn
    rw [decide_eq_true hc, if_pos rfl, if_pos rfl, cHasTarget_e hR hcn, hasTarget_e hc4, Option.bind_some, Option.bind_some]
    by_cases h2 : hasT M c = true
    · rw [if_pos h2, if_pos h2]
      obtain ⟨ha, h3, h4, h5, h7⟩ := hW.2.2 c hcn
      have hT : ¬ F M c 3 = -100 := by
        intro q
        unfold hasT at h2
        rw [if_pos q] at h2
        exact absurd h2 (by decide)
      have h3' : ∃ t, t < 36 ∧ F M c 3 = nI t := h3.elim (fun q => absurd q hT) id
      have h4' : ¬ F M c 4 = 0 := h5.elim (fun q => absurd q hT) id
      have h4'' : F M c 4 = 1 ∨ F M c 4 = -1 := h4.elim (fun q => absurd q h4') id
      unfold fX1_ticksToTarget
      rw [cStepsTo_e hR hcn ha h3' h4'', rd8 hc4, rd24 hc4, hR.f hcn 1 (by decide), hR.f hcn 5 (by decide), of3 hc4, of4 hc4, Option.bind_some, Option.bind_some, Option.bind_some, Option.bind_some, Option.bind_some, Option.bind_some, stepsTo_e hc4, of1 hc4, of5 hc4]
      exact ⟨_, rfl, rfl⟩
    · rw [if_neg h2, if_neg h2]
      exact ⟨_, rfl, rfl⟩
  · rw [decide_eq_false hc, if_neg (by decide), if_neg (by decide)]
    exact ⟨_, rfl, rfl⟩
theorem blocker_pair (hfu : 128 < fu) (h : INV R HR HS HN M SV) (x1 : Int32) : ∃ v, fX3_blocker fu R x1 = some v ∧ fX4_blocker fu M x1 = some v := by
  obtain ⟨n, p, sv, hR, hW, hH, -, -, -⟩ := h
  unfold fX3_blocker fX4_blocker
  rw [cHasCrane_e hR, mIsCrane_e hR.1 hR.2.2.1, Option.bind_some, Option.bind_some]
  by_cases hc : 0 ≤ x1.toInt ∧ x1.toInt < n
  · obtain ⟨c, hcn, rfl⟩ := of_toInt hc (by have := hR.1; omega)
    have hc4 := hR.lt hcn
    rw [decide_eq_true hc, if_pos rfl, if_pos rfl, cBlockerOf_e hR hcn (by omega), isBlocked_e hc4 (by omega) hR.1 hR.2.2.1, inWay_e hc4 (by omega) hR.1 hR.2.2.1, Option.bind_some, Option.bind_some]
    by_cases hb : blk M n c = true
    · rw [if_pos hb, if_pos hb]
      exact ⟨_, rfl, rfl⟩
    · rw [if_neg hb, if_neg hb]
      exact ⟨_, rfl, rfl⟩
  · rw [decide_eq_false hc, if_neg (by decide), if_neg (by decide)]
    exact ⟨_, rfl, rfl⟩
theorem note_pair (h : INV R HR HS HN M SV) (x1 x2 : Int32) : ∃ v, fX3_note R x1 x2 = some v ∧ fX4_note M x1 x2 = some v := by
  obtain ⟨n, p, sv, hR, hW, hH, -, -, -⟩ := h
  obtain ⟨q, hq, hq3⟩ := hW.2.1
  have e3 : (nI q - (1 : Int32)).toInt = (q : Int) - 1 := by
    have : ∀ q, q < 11 → (nI q - (1 : Int32)).toInt = (q : Int) - 1 := by decide
    exact this q (by omega)
  unfold fX3_note fX4_note fX1_noteCount
  rw [rdk3, rdm3, hR.2.2.2.2.2.1, hq3, Option.bind_some, Option.bind_some, Option.bind_some, if_in3, in_e, Option.bind_some, e3]
  by_cases hc : 0 ≤ x1.toInt ∧ x1.toInt < q
  · obtain ⟨i, hi, rfl⟩ := of_toInt hc (by omega)
    have h1 : (0 : Int32).toInt ≤ (nI i).toInt ∧ (nI i).toInt < (nI q).toInt := by
      rw [nI_toInt (show q < 2 ^ 31 by omega)]
      exact hc
    have h2 : (0 : Int32).toInt ≤ (nI i).toInt ∧ (nI i).toInt ≤ (q : Int) - 1 := by
      show 0 ≤ (nI i).toInt ∧ _
      omega
    rw [decide_eq_true h1, decide_eq_true h2, if_pos rfl, if_pos rfl, if_in3, in_e, Option.bind_some]
    by_cases hw : 0 ≤ x2.toInt ∧ x2.toInt < 4
    · obtain ⟨w, hw4, rfl⟩ := of_toInt (n := 4) hw (by decide)
      have h3 : (0 : Int32).toInt ≤ (nI w).toInt ∧ (nI w).toInt < (4 : Int32).toInt := hw
      have h4 : (0 : Int32).toInt ≤ (nI w).toInt ∧ (nI w).toInt ≤ (3 : Int32).toInt := by
        show 0 ≤ (nI w).toInt ∧ (nI w).toInt ≤ 3
        omega
      have r1 : rdA R 132 (((92 : Int32) + (nI i * (4 : Int32))) + nI w) = some (M (88 + (i * 4 + w))) := by
        show rdA R 132 ((nI 92 + (nI i * nI 4)) + nI w) = _
        rw [pk_mul, nI_add, nI_add, rd_n (by omega) (by decide), Nat.add_assoc, hR.2.2.2.2.2.2.1 (i * 4 + w) (by omega)]
      unfold fX1_partOfNote
      rw [decide_eq_true h3, decide_eq_true h4, if_pos rfl, if_pos rfl, r1, rd88 (by omega) hw4]
      exact ⟨_, rfl, rfl⟩
    · have h3 : ¬ ((0 : Int32).toInt ≤ x2.toInt ∧ x2.toInt < (4 : Int32).toInt) := hw
      have h4 : ¬ ((0 : Int32).toInt ≤ x2.toInt ∧ x2.toInt ≤ (3 : Int32).toInt) := by
        show ¬ (0 ≤ x2.toInt ∧ x2.toInt ≤ 3)
        omega
      rw [decide_eq_false h3, decide_eq_false h4, if_neg (by decide), if_neg (by decide)]
      exact ⟨_, rfl, rfl⟩
  · have h1 : ¬ ((0 : Int32).toInt ≤ x1.toInt ∧ x1.toInt < (nI q).toInt) := by
      rw [nI_toInt (show q < 2 ^ 31 by omega)]
      exact hc
    have h2 : ¬ ((0 : Int32).toInt ≤ x1.toInt ∧ x1.toInt ≤ (q : Int) - 1) := by
      show ¬ (0 ≤ x1.toInt ∧ _)
      omega
    rw [decide_eq_false h1, decide_eq_false h2, if_neg (by decide), if_neg (by decide)]
    exact ⟨_, rfl, rfl⟩
/-! cycles -/
theorem inw_cases (M : Nat → Int32) (n c : Nat) : inw M n c = -100 ∨ ∃ o, o < n ∧ inw M n c = nI o := by
  unfold inw
  have : ∀ (n : Nat) (d : Int32) (P : Int32 → Prop), (∀ o, o < n → P (nI o)) → P d → P (lowf (iwP M c) n d) := by
    intro n
    induction n with
    | zero => intro d P _ h; exact h
    | succ n ih =>
      intro d P h hd
      unfold lowf
      refine ih _ P (fun o ho => h o (by omega)) ?_
      split
      · exact h n (by omega)
      · exact hd
  exact this n (-100) (fun x => x = -100 ∨ ∃ o, o < n ∧ x = nI o) (fun o ho => Or.inr ⟨o, ho, rfl⟩) (Or.inl rfl)
noncomputable def nb (M : Nat → Int32) (n a : Nat) : Option Nat := if blk M n a = true then (if h : ∃ o, o < n ∧ inw M n a = nI o then some h.choose else none) else none
theorem nb_e (M : Nat → Int32) (n a : Nat) : (nb M n a = none ∧ (if blk M n a = true then inw M n a else (-100 : Int32)) = -100) ∨ ∃ o, o < n ∧ nb M n a = some o ∧ (if blk M n a = true then inw M n a else (-100 : Int32)) = nI o := by
  unfold nb
  by_cases hb : blk M n a = true
  · rw [if_pos hb, if_pos hb]
    by_cases h : ∃ o, o < n ∧ inw M n a = nI o
    · rw [dif_pos h]
      exact Or.inr ⟨h.choose, h.choose_spec.1, rfl, h.choose_spec.2⟩
    · rw [dif_neg h]
      exact Or.inl ⟨rfl, (inw_cases M n a).elim id (fun q => absurd q h)⟩
  · rw [if_neg hb, if_neg hb]
    exact Or.inl ⟨rfl, rfl⟩
noncomputable def cyc (M : Nat → Int32) (n c : Nat) : Nat → Nat → Bool
  | 0, _ => false
  | r + 1, a => match nb M n a with
    | none => false
    | some o => if o = c then true else cyc M n c r o
theorem cCyc_loop {c : Nat} (hR : Rel R M n) (hc : c < n) (hfu : 12 < fu) : ∀ (r k m a : Nat), k + r = 4 → r < m → a < n → lp (fX1_blockersLeadBackTo_L4 fu R (nI c)) m (nI a, nI k) = some (cyc M n c r a) := by
  have hn4 := hR.1
  intro r
  induction r with
  | zero =>
    intro k m a hk hm ha
    obtain ⟨m, rfl⟩ : ∃ q, m = q + 1 := ⟨m - 1, by omega⟩
    refine lp_inr ?_
    unfold fX1_blockersLeadBackTo_L4
    have : k = 4 := by omega
    subst this
    rw [if_pos (show (4 : Int32) ≤ nI 4 from q_le (a := 4) (by decide) (by decide))]
    rfl
  | succ r ih =>
    intro k m a hk hm ha
    obtain ⟨m, rfl⟩ : ∃ q, m = q + 1 := ⟨m - 1, by omega⟩
    have hk4 : ¬ (4 : Int32) ≤ nI k := q_nle (a := 4) (by omega) (by decide)
    have hneg : ∀ o, o < 4 → ¬ nI o = (-100 : Int32) := by decide
    rcases nb_e M n a with ⟨h1, h2⟩ | ⟨o, ho, h1, h2⟩
    · refine lp_inr ?_
      unfold fX1_blockersLeadBackTo_L4 cyc
      simp only [if_neg hk4, cBlockerOf_e hR ha hfu, h2, Option.bind_some, if_true, h1, if_neg (show ¬ (-100 : Int32) = nI c from fun q => hneg c (by omega) q.symm)]
    · by_cases e : o = c
      · subst e
        refine lp_inr ?_
        unfold fX1_blockersLeadBackTo_L4 cyc
        simp only [if_neg hk4, cBlockerOf_e hR ha hfu, h2, Option.bind_some, if_neg (hneg o (by omega)), if_true, h1]
      · have hb : fX1_blockersLeadBackTo_L4 fu R (nI c) (nI a, nI k) = some (.inl (nI o, nI (k + 1))) := by
          unfold fX1_blockersLeadBackTo_L4
          simp only [if_neg hk4, cBlockerOf_e hR ha hfu, h2, Option.bind_some, if_neg (hneg o (by omega)), if_neg (q_ne e (show o < 2 ^ 31 by omega) (show c < 2 ^ 31 by omega)), nI_1]
        rw [lp_inl hb, ih (k + 1) m o (by omega) (by omega) ho]
        show _ = some (match nb M n a with | none => false | some o => if o = c then true else cyc M n c r o)
        rw [h1]
        simp only [if_neg e]
theorem mCyc_loop {c : Nat} (hn4 : n ≤ 4) (h2 : M 2 = nI n) (hc : c < n) (hfu : 12 < fu) (y1 : Int32) : ∀ (r k m a : Nat), k + r = 4 → r + 1 < m → a < n → lp (fX4_cycle_L22 fu M y1 (nI c)) m (nI a, false, nI k) = some (.inl (if cyc M n c r a = true then y1 ||| jshl (1 : Int32) (nI c) else y1 ||| (0 : Int32), nI (c + 1))) := by
  intro r
  induction r with
  | zero =>
    intro k m a hk hm ha
    obtain ⟨m, rfl⟩ : ∃ q, m = q + 1 := ⟨m - 1, by omega⟩
    refine lp_inr ?_
    unfold fX4_cycle_L22
    have : k = 4 := by omega
    subst this
    simp only [if_pos (show (4 : Int32) ≤ nI 4 from q_le (a := 4) (by decide) (by decide)), nI_1]
    rfl
  | succ r ih =>
    intro k m a hk hm ha
    obtain ⟨m, rfl⟩ : ∃ q, m = q + 2 := ⟨m - 2, by omega⟩
    have hk4 : ¬ (4 : Int32) ≤ nI k := q_nle (a := 4) (by omega) (by decide)
    have hneg : ∀ o, o < 4 → ¬ nI o = (-100 : Int32) := by decide
    have ha4 : a < 4 := by omega
    have hstep : fX4_cycle_L22 fu M y1 (nI c) (nI a, false, nI k) = some (.inl ((if blk M n a = true then inw M n a else (-100 : Int32)), decide ((if blk M n a = true then inw M n a else (-100 : Int32)) = nI c), nI (k + 1))) := by
      unfold fX4_cycle_L22
      simp only [if_neg hk4, if_neg (hneg a ha4), Bool.false_eq_true, if_false, isBlocked_e ha4 (show 6 < fu by omega) hn4 h2, inWay_e ha4 (show 6 < fu by omega) hn4 h2, Option.bind_some, nI_1]
      by_cases hb : blk M n a = true
      · simp only [if_pos hb]
        split <;> rename_i q <;> simp [q]
      · simp only [if_neg hb]
        split <;> rename_i q <;> simp [q]
    rw [lp_inl hstep]
    rcases nb_e M n a with ⟨h1, h3⟩ | ⟨o, ho, h1, h3⟩
    · rw [h3, decide_eq_false (show ¬ (-100 : Int32) = nI c from fun q => hneg c (by omega) q.symm)]
      have hcyc : cyc M n c (r + 1) a = false := by
        show (match nb M n a with | none => false | some o => if o = c then true else cyc M n c r o) = false
        rw [h1]
      rw [hcyc]
      refine lp_inr ?_
      unfold fX4_cycle_L22
      simp only [Bool.false_eq_true, if_false, if_true, nI_1]
      split <;> rfl
    · rw [h3]
      by_cases e : o = c
      · subst e
        have hcyc : cyc M n o (r + 1) a = true := by
          show (match nb M n a with | none => false | some o' => if o' = o then true else cyc M n o r o') = true
          rw [h1]
          simp
        rw [hcyc, decide_eq_true rfl]
        refine lp_inr ?_
        unfold fX4_cycle_L22
        simp only [if_true, if_neg (hneg o (by omega)), nI_1]
        split <;> rfl
      · have hcyc : cyc M n c (r + 1) a = cyc M n c r o := by
          show (match nb M n a with | none => false | some o => if o = c then true else cyc M n c r o) = _
          rw [h1]
          simp only [if_neg e]
        rw [hcyc, decide_eq_false (q_ne e (show o < 2 ^ 31 by omega) (show c < 2 ^ 31 by omega))]
        exact ih (k + 1) (m + 1) o (by omega) (by omega) ho
theorem cycle_pair (hfu : 128 < fu) (h : INV R HR HS HN M SV) : ∃ v, fX3_cycle fu R = some v ∧ fX4_cycle fu M = some v := by
  obtain ⟨n, p, sv, hR, hW, hH, -, -, -⟩ := h
  have hn4 := hR.1
  refine ⟨msk (fun c => cyc M n c 4 c) n, ?_, ?_⟩
  · unfold fX3_cycle
    have : fX1_cycleSet fu R = some (msk (fun c => cyc M n c 4 c) n) := by
      refine lp_go (body := fX1_cycleSet_L4 fu R) (fun j => (msk (fun c => cyc M n c 4 c) j, nI j)) n _ (by omega) ?_ ?_
      · intro j hj
        have hb : fX1_blockersLeadBackTo fu R (nI j) = some (cyc M n j 4 j) := cCyc_loop hR hj (by omega) 4 0 fu j (by decide) (by omega) hj
        unfold fX1_cycleSet_L4
        simp only [rdk2, hR.2.1, Option.bind_some, if_neg (q_nle hj (show n < 2 ^ 31 by omega)), hb, nI_1, msk_step _ j (show j < 6 by omega)]
        split <;> rfl
      · unfold fX1_cycleSet_L4
        simp only [rdk2, hR.2.1, Option.bind_some, if_pos (q_le (Nat.le_refl n) (show n < 2 ^ 31 by omega))]
    rw [this]
    rfl
  · refine lp_go (body := fX4_cycle_L4 fu M) (fun j => (msk (fun c => cyc M n c 4 c) j, nI j)) n _ (by omega) ?_ ?_
    · intro j hj
      have hb : lp (fX4_cycle_L22 fu M (msk (fun c => cyc M n c 4 c) j) (nI j)) fu (nI j, false, (0 : Int32)) = _ := mCyc_loop hn4 hR.2.2.1 hj (by omega) _ 4 0 fu j (by decide) (by omega) hj
      unfold fX4_cycle_L4
      simp only [rdm2, hR.2.2.1, Option.bind_some, if_neg (q_nle hj (show n < 2 ^ 31 by omega)), hb, msk_step _ j (show j < 6 by omega), Int32.or_zero]
    · unfold fX4_cycle_L4
      simp only [rdm2, hR.2.2.1, Option.bind_some, if_pos (q_le (Nat.le_refl n) (show n < 2 ^ 31 by omega))]
end READS
