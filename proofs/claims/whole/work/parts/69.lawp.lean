/-! the law, one call after another -/
def GO (x3 : Int32) (o : Option (((Nat → Int32) × (Nat → Int32) × (Nat → Int32) × Int32 × Int32 × (Nat → Int32) × Int32 × Int32 × (Nat → Int32) × (Nat → Int32) × (Nat → Int32) × Int32 × (Nat → Int32) × Int32 × (Nat → Int32) × Int32 × Int32 × Int64 × Int32) ⊕ (Bool))) : Prop := ∃ R R2 HR HS HN TB LN PS TC TW TG CM M SV MX ML MA MH, o = some (.inl (R, R2, HR, HS, HN, TB, LN, PS, TC, TW, TG, CM, M, SV, MX, ML, MA, MH, x3 + (5 : Int32))) ∧ INV R HR HS HN M SV ∧ TXT TB LN MX ML
theorem cmp_self (v : Int64) : lg_cmp v v = 0 := by
  unfold lg_cmp
  rw [if_neg (show ¬ v < v from Int64.lt_irrefl), if_pos rfl]
theorem ite_P {α : Type} {P : α → Prop} {c : Prop} [Decidable c] {a b : α} (ha : P a) (hb : ¬ c → P b) : P (if c then a else b) := by
  by_cases h : c
  · rw [if_pos h]; exact ha
  · rw [if_neg h]; exact hb h
section LAWP
variable {fu L : Nat} {xs R R2 HR TB TC TW TG M MX : Nat → Int32} {HS HN LN PS CM SV ML MA x3 a1 a2 a3 a4 : Int32} {MH : Int64}

theorem gL_0 (hfu : 2000 < fu) (r1 : rdA xs L (x3 + (1 : Int32)) = some a1) (r2 : rdA xs L (x3 + (2 : Int32)) = some a2) (r3 : rdA xs L (x3 + (3 : Int32)) = some a3) (r4 : rdA xs L (x3 + (4 : Int32)) = some a4) (h : INV R HR HS HN M SV) (ht : TXT TB LN MX ML) : GO x3 (fL_law_c0 fu L xs R R2 HR HS HN TB LN PS TC TW TG CM M SV MX ML MA MH x3) := by
  obtain ⟨v, R', HR', HS', HN', M', SV', e1, e2, h1⟩ := addCrane_pair (fu := fu) (by omega) h a1 a2 a3
  refine ⟨R', R2, HR', HS', HN', TB, LN, PS, TC, TW, TG, CM, M', SV', MX, ML, MA, MH, ?_, h1, ht⟩
  unfold fL_law_c0
  simp only [r1, r2, r3, e1, e2, Option.bind_some, if_true]
theorem gL_1 (hfu : 2000 < fu) (r1 : rdA xs L (x3 + (1 : Int32)) = some a1) (r2 : rdA xs L (x3 + (2 : Int32)) = some a2) (r3 : rdA xs L (x3 + (3 : Int32)) = some a3) (r4 : rdA xs L (x3 + (4 : Int32)) = some a4) (h : INV R HR HS HN M SV) (ht : TXT TB LN MX ML) : GO x3 (fL_law_c1 fu L xs R R2 HR HS HN TB LN PS TC TW TG CM M SV MX ML MA MH x3) := by
  obtain ⟨v, R', HR', HS', HN', M', SV', e1, e2, h1⟩ := setPriority_pair (fu := fu) (by omega) h a1 a2
  refine ⟨R', R2, HR', HS', HN', TB, LN, PS, TC, TW, TG, CM, M', SV', MX, ML, MA, MH, ?_, h1, ht⟩
  unfold fL_law_c1
  simp only [r1, r2, e1, e2, Option.bind_some, if_true]
theorem gL_2 (hfu : 2000 < fu) (r1 : rdA xs L (x3 + (1 : Int32)) = some a1) (r2 : rdA xs L (x3 + (2 : Int32)) = some a2) (r3 : rdA xs L (x3 + (3 : Int32)) = some a3) (r4 : rdA xs L (x3 + (4 : Int32)) = some a4) (h : INV R HR HS HN M SV) (ht : TXT TB LN MX ML) : GO x3 (fL_law_c2 fu L xs R R2 HR HS HN TB LN PS TC TW TG CM M SV MX ML MA MH x3) := by
  obtain ⟨v, R', T', HR', HS', HN', M', SV', e1, e2, h1⟩ := setArc_pair (fu := fu) (T := R2) (by omega) h a1 a2 a3 a4
  refine ⟨R', T', HR', HS', HN', TB, LN, PS, TC, TW, TG, CM, M', SV', MX, ML, MA, MH, ?_, h1, ht⟩
  unfold fL_law_c2
  simp only [r1, r2, r3, r4, e1, e2, Option.bind_some, if_true]
theorem gL_3 (hfu : 2000 < fu) (r1 : rdA xs L (x3 + (1 : Int32)) = some a1) (r2 : rdA xs L (x3 + (2 : Int32)) = some a2) (r3 : rdA xs L (x3 + (3 : Int32)) = some a3) (r4 : rdA xs L (x3 + (4 : Int32)) = some a4) (h : INV R HR HS HN M SV) (ht : TXT TB LN MX ML) : GO x3 (fL_law_c3 fu L xs R R2 HR HS HN TB LN PS TC TW TG CM M SV MX ML MA MH x3) := by
  obtain ⟨v, R', HR', HS', HN', M', SV', e1, e2, h1⟩ := removeArc_pair (fu := fu) (by omega) h a1 a2
  refine ⟨R', R2, HR', HS', HN', TB, LN, PS, TC, TW, TG, CM, M', SV', MX, ML, MA, MH, ?_, h1, ht⟩
  unfold fL_law_c3
  simp only [r1, r2, e1, e2, Option.bind_some, if_true]
theorem gL_4 (hfu : 2000 < fu) (r1 : rdA xs L (x3 + (1 : Int32)) = some a1) (r2 : rdA xs L (x3 + (2 : Int32)) = some a2) (r3 : rdA xs L (x3 + (3 : Int32)) = some a3) (r4 : rdA xs L (x3 + (4 : Int32)) = some a4) (h : INV R HR HS HN M SV) (ht : TXT TB LN MX ML) : GO x3 (fL_law_c4 fu L xs R R2 HR HS HN TB LN PS TC TW TG CM M SV MX ML MA MH x3) := by
  obtain ⟨v, e1, e2⟩ := cranes_pair h
  refine ⟨R, R2, HR, HS, HN, TB, LN, PS, TC, TW, TG, CM, M, SV, MX, ML, MA, MH, ?_, h, ht⟩
  unfold fL_law_c4
  simp only [e1, e2, Option.bind_some, if_true]
theorem gL_5 (hfu : 2000 < fu) (r1 : rdA xs L (x3 + (1 : Int32)) = some a1) (r2 : rdA xs L (x3 + (2 : Int32)) = some a2) (r3 : rdA xs L (x3 + (3 : Int32)) = some a3) (r4 : rdA xs L (x3 + (4 : Int32)) = some a4) (h : INV R HR HS HN M SV) (ht : TXT TB LN MX ML) : GO x3 (fL_law_c5 fu L xs R R2 HR HS HN TB LN PS TC TW TG CM M SV MX ML MA MH x3) := by
  obtain ⟨v, e1, e2⟩ := crane_pair (fu := fu) (by omega) h a1 a2
  refine ⟨R, R2, HR, HS, HN, TB, LN, PS, TC, TW, TG, CM, M, SV, MX, ML, MA, MH, ?_, h, ht⟩
  unfold fL_law_c5
  simp only [r1, r2, e1, e2, Option.bind_some, if_true]
theorem gL_6 (hfu : 2000 < fu) (r1 : rdA xs L (x3 + (1 : Int32)) = some a1) (r2 : rdA xs L (x3 + (2 : Int32)) = some a2) (r3 : rdA xs L (x3 + (3 : Int32)) = some a3) (r4 : rdA xs L (x3 + (4 : Int32)) = some a4) (h : INV R HR HS HN M SV) (ht : TXT TB LN MX ML) : GO x3 (fL_law_c6 fu L xs R R2 HR HS HN TB LN PS TC TW TG CM M SV MX ML MA MH x3) := by
  by_cases hz : a3 = (0 : Int32)
  · obtain ⟨v, e1, e2⟩ := arc_pair h a1 a2 false
    refine ⟨R, R2, HR, HS, HN, TB, LN, PS, TC, TW, TG, CM, M, SV, MX, ML, MA, MH, ?_, h, ht⟩
    unfold fL_law_c6
    simp only [r1, r2, r3, if_pos hz, e1, e2, Option.bind_some, if_true]
  · obtain ⟨v, e1, e2⟩ := arc_pair h a1 a2 true
    refine ⟨R, R2, HR, HS, HN, TB, LN, PS, TC, TW, TG, CM, M, SV, MX, ML, MA, MH, ?_, h, ht⟩
    unfold fL_law_c6
    simp only [r1, r2, r3, if_neg hz, e1, e2, Option.bind_some, if_true]
theorem gL_7 (hfu : 2000 < fu) (r1 : rdA xs L (x3 + (1 : Int32)) = some a1) (r2 : rdA xs L (x3 + (2 : Int32)) = some a2) (r3 : rdA xs L (x3 + (3 : Int32)) = some a3) (r4 : rdA xs L (x3 + (4 : Int32)) = some a4) (h : INV R HR HS HN M SV) (ht : TXT TB LN MX ML) : GO x3 (fL_law_c7 fu L xs R R2 HR HS HN TB LN PS TC TW TG CM M SV MX ML MA MH x3) := by
  obtain ⟨v, e1, e2⟩ := occupants_pair (fu := fu) (by omega) h a1
  refine ⟨R, R2, HR, HS, HN, TB, LN, PS, TC, TW, TG, CM, M, SV, MX, ML, MA, MH, ?_, h, ht⟩
  unfold fL_law_c7
  simp only [r1, e1, e2, Option.bind_some, if_true]
theorem gL_8 (hfu : 2000 < fu) (r1 : rdA xs L (x3 + (1 : Int32)) = some a1) (r2 : rdA xs L (x3 + (2 : Int32)) = some a2) (r3 : rdA xs L (x3 + (3 : Int32)) = some a3) (r4 : rdA xs L (x3 + (4 : Int32)) = some a4) (h : INV R HR HS HN M SV) (ht : TXT TB LN MX ML) : GO x3 (fL_law_c8 fu L xs R R2 HR HS HN TB LN PS TC TW TG CM M SV MX ML MA MH x3) := by
  obtain ⟨v, e1, e2⟩ := conflicts_pair (fu := fu) (by omega) h
  refine ⟨R, R2, HR, HS, HN, TB, LN, PS, TC, TW, TG, CM, M, SV, MX, ML, MA, MH, ?_, h, ht⟩
  unfold fL_law_c8
  simp only [e1, e2, Option.bind_some, if_true]
theorem gL_9 (hfu : 2000 < fu) (r1 : rdA xs L (x3 + (1 : Int32)) = some a1) (r2 : rdA xs L (x3 + (2 : Int32)) = some a2) (r3 : rdA xs L (x3 + (3 : Int32)) = some a3) (r4 : rdA xs L (x3 + (4 : Int32)) = some a4) (h : INV R HR HS HN M SV) (ht : TXT TB LN MX ML) : GO x3 (fL_law_c9 fu L xs R R2 HR HS HN TB LN PS TC TW TG CM M SV MX ML MA MH x3) := by
  obtain ⟨v, R', HR', HS', HN', M', SV', e1, e2, h1⟩ := slew_pair (fu := fu) (by omega) h a1 a2 a3
  refine ⟨R', R2, HR', HS', HN', TB, LN, PS, TC, TW, TG, CM, M', SV', MX, ML, MA, MH, ?_, h1, ht⟩
  unfold fL_law_c9
  simp only [r1, r2, r3, e1, e2, Option.bind_some, if_true]
theorem gL_10 (hfu : 2000 < fu) (r1 : rdA xs L (x3 + (1 : Int32)) = some a1) (r2 : rdA xs L (x3 + (2 : Int32)) = some a2) (r3 : rdA xs L (x3 + (3 : Int32)) = some a3) (r4 : rdA xs L (x3 + (4 : Int32)) = some a4) (h : INV R HR HS HN M SV) (ht : TXT TB LN MX ML) : GO x3 (fL_law_c10 fu L xs R R2 HR HS HN TB LN PS TC TW TG CM M SV MX ML MA MH x3) := by
  obtain ⟨v, R', HR', HS', HN', M', SV', e1, e2, h1⟩ := stop_pair (fu := fu) (by omega) h a1
  refine ⟨R', R2, HR', HS', HN', TB, LN, PS, TC, TW, TG, CM, M', SV', MX, ML, MA, MH, ?_, h1, ht⟩
  unfold fL_law_c10
  simp only [r1, e1, e2, Option.bind_some, if_true]
theorem gL_11 (hfu : 2000 < fu) (r1 : rdA xs L (x3 + (1 : Int32)) = some a1) (r2 : rdA xs L (x3 + (2 : Int32)) = some a2) (r3 : rdA xs L (x3 + (3 : Int32)) = some a3) (r4 : rdA xs L (x3 + (4 : Int32)) = some a4) (h : INV R HR HS HN M SV) (ht : TXT TB LN MX ML) : GO x3 (fL_law_c11 fu L xs R R2 HR HS HN TB LN PS TC TW TG CM M SV MX ML MA MH x3) := by
  obtain ⟨v, R', HR', HS', HN', M', SV', e1, e2, h1⟩ := turnRound_pair (fu := fu) (by omega) h a1
  refine ⟨R', R2, HR', HS', HN', TB, LN, PS, TC, TW, TG, CM, M', SV', MX, ML, MA, MH, ?_, h1, ht⟩
  unfold fL_law_c11
  simp only [r1, e1, e2, Option.bind_some, if_true]
theorem gL_12 (hfu : 2000 < fu) (r1 : rdA xs L (x3 + (1 : Int32)) = some a1) (r2 : rdA xs L (x3 + (2 : Int32)) = some a2) (r3 : rdA xs L (x3 + (3 : Int32)) = some a3) (r4 : rdA xs L (x3 + (4 : Int32)) = some a4) (h : INV R HR HS HN M SV) (ht : TXT TB LN MX ML) : GO x3 (fL_law_c12 fu L xs R R2 HR HS HN TB LN PS TC TW TG CM M SV MX ML MA MH x3) := by
  obtain ⟨v, R', HR', HS', HN', M', SV', e1, e2, h1⟩ := tick_pair (fu := fu) (by omega) h a1
  refine ⟨R', R2, HR', HS', HN', TB, LN, PS, TC, TW, TG, CM, M', SV', MX, ML, MA, MH, ?_, h1, ht⟩
  unfold fL_law_c12
  simp only [r1, e1, e2, Option.bind_some, if_true]
theorem gL_13 (hfu : 2000 < fu) (r1 : rdA xs L (x3 + (1 : Int32)) = some a1) (r2 : rdA xs L (x3 + (2 : Int32)) = some a2) (r3 : rdA xs L (x3 + (3 : Int32)) = some a3) (r4 : rdA xs L (x3 + (4 : Int32)) = some a4) (h : INV R HR HS HN M SV) (ht : TXT TB LN MX ML) : GO x3 (fL_law_c13 fu L xs R R2 HR HS HN TB LN PS TC TW TG CM M SV MX ML MA MH x3) := by
  obtain ⟨v, e1, e2⟩ := time_pair h
  refine ⟨R, R2, HR, HS, HN, TB, LN, PS, TC, TW, TG, CM, M, SV, MX, ML, MA, MH, ?_, h, ht⟩
  unfold fL_law_c13
  simp only [e1, e2, Option.bind_some, if_true]
theorem gL_14 (hfu : 2000 < fu) (r1 : rdA xs L (x3 + (1 : Int32)) = some a1) (r2 : rdA xs L (x3 + (2 : Int32)) = some a2) (r3 : rdA xs L (x3 + (3 : Int32)) = some a3) (r4 : rdA xs L (x3 + (4 : Int32)) = some a4) (h : INV R HR HS HN M SV) (ht : TXT TB LN MX ML) : GO x3 (fL_law_c14 fu L xs R R2 HR HS HN TB LN PS TC TW TG CM M SV MX ML MA MH x3) := by
  obtain ⟨v, e1, e2⟩ := needs_pair h a1
  refine ⟨R, R2, HR, HS, HN, TB, LN, PS, TC, TW, TG, CM, M, SV, MX, ML, MA, MH, ?_, h, ht⟩
  unfold fL_law_c14
  simp only [r1, e1, e2, Option.bind_some, if_true]
theorem gL_15 (hfu : 2000 < fu) (r1 : rdA xs L (x3 + (1 : Int32)) = some a1) (r2 : rdA xs L (x3 + (2 : Int32)) = some a2) (r3 : rdA xs L (x3 + (3 : Int32)) = some a3) (r4 : rdA xs L (x3 + (4 : Int32)) = some a4) (h : INV R HR HS HN M SV) (ht : TXT TB LN MX ML) : GO x3 (fL_law_c15 fu L xs R R2 HR HS HN TB LN PS TC TW TG CM M SV MX ML MA MH x3) := by
  obtain ⟨v, e1, e2⟩ := blocker_pair (fu := fu) (by omega) h a1
  refine ⟨R, R2, HR, HS, HN, TB, LN, PS, TC, TW, TG, CM, M, SV, MX, ML, MA, MH, ?_, h, ht⟩
  unfold fL_law_c15
  simp only [r1, e1, e2, Option.bind_some, if_true]
theorem gL_16 (hfu : 2000 < fu) (r1 : rdA xs L (x3 + (1 : Int32)) = some a1) (r2 : rdA xs L (x3 + (2 : Int32)) = some a2) (r3 : rdA xs L (x3 + (3 : Int32)) = some a3) (r4 : rdA xs L (x3 + (4 : Int32)) = some a4) (h : INV R HR HS HN M SV) (ht : TXT TB LN MX ML) : GO x3 (fL_law_c16 fu L xs R R2 HR HS HN TB LN PS TC TW TG CM M SV MX ML MA MH x3) := by
  obtain ⟨v, e1, e2⟩ := cycle_pair (fu := fu) (by omega) h
  refine ⟨R, R2, HR, HS, HN, TB, LN, PS, TC, TW, TG, CM, M, SV, MX, ML, MA, MH, ?_, h, ht⟩
  unfold fL_law_c16
  simp only [e1, e2, Option.bind_some, if_true]
theorem gL_17 (hfu : 2000 < fu) (r1 : rdA xs L (x3 + (1 : Int32)) = some a1) (r2 : rdA xs L (x3 + (2 : Int32)) = some a2) (r3 : rdA xs L (x3 + (3 : Int32)) = some a3) (r4 : rdA xs L (x3 + (4 : Int32)) = some a4) (h : INV R HR HS HN M SV) (ht : TXT TB LN MX ML) : GO x3 (fL_law_c17 fu L xs R R2 HR HS HN TB LN PS TC TW TG CM M SV MX ML MA MH x3) := by
  obtain ⟨v, T', M', e1, e2, h1⟩ := allDone_p (T := R2) hfu h
  refine ⟨R, T', HR, HS, HN, TB, LN, PS, TC, TW, TG, CM, M', SV, MX, ML, MA, MH, ?_, h1, ht⟩
  unfold fL_law_c17
  simp only [e1, e2, Option.bind_some, if_true]
theorem gL_18 (hfu : 2000 < fu) (r1 : rdA xs L (x3 + (1 : Int32)) = some a1) (r2 : rdA xs L (x3 + (2 : Int32)) = some a2) (r3 : rdA xs L (x3 + (3 : Int32)) = some a3) (r4 : rdA xs L (x3 + (4 : Int32)) = some a4) (h : INV R HR HS HN M SV) (ht : TXT TB LN MX ML) : GO x3 (fL_law_c18 fu L xs R R2 HR HS HN TB LN PS TC TW TG CM M SV MX ML MA MH x3) := by
  obtain ⟨v, T', M', e1, e2, h1⟩ := done_p (T := R2) hfu h a1
  refine ⟨R, T', HR, HS, HN, TB, LN, PS, TC, TW, TG, CM, M', SV, MX, ML, MA, MH, ?_, h1, ht⟩
  unfold fL_law_c18
  simp only [r1, e1, e2, Option.bind_some, if_true]
theorem gL_19 (hfu : 2000 < fu) (r1 : rdA xs L (x3 + (1 : Int32)) = some a1) (r2 : rdA xs L (x3 + (2 : Int32)) = some a2) (r3 : rdA xs L (x3 + (3 : Int32)) = some a3) (r4 : rdA xs L (x3 + (4 : Int32)) = some a4) (h : INV R HR HS HN M SV) (ht : TXT TB LN MX ML) : GO x3 (fL_law_c19 fu L xs R R2 HR HS HN TB LN PS TC TW TG CM M SV MX ML MA MH x3) := by
  obtain ⟨v, T', M', e1, e2, h1⟩ := waits_p (T := R2) hfu h a1 a2
  refine ⟨R, T', HR, HS, HN, TB, LN, PS, TC, TW, TG, CM, M', SV, MX, ML, MA, MH, ?_, h1, ht⟩
  unfold fL_law_c19
  simp only [r1, r2, e1, e2, Option.bind_some, if_true]
theorem gL_20 (hfu : 2000 < fu) (r1 : rdA xs L (x3 + (1 : Int32)) = some a1) (r2 : rdA xs L (x3 + (2 : Int32)) = some a2) (r3 : rdA xs L (x3 + (3 : Int32)) = some a3) (r4 : rdA xs L (x3 + (4 : Int32)) = some a4) (h : INV R HR HS HN M SV) (ht : TXT TB LN MX ML) : GO x3 (fL_law_c20 fu L xs R R2 HR HS HN TB LN PS TC TW TG CM M SV MX ML MA MH x3) := by
  obtain ⟨v, R', HR', HS', HN', M', SV', e1, e2, h1⟩ := setWind_pair (fu := fu) (by omega) h a1
  refine ⟨R', R2, HR', HS', HN', TB, LN, PS, TC, TW, TG, CM, M', SV', MX, ML, MA, MH, ?_, h1, ht⟩
  unfold fL_law_c20
  simp only [r1, e1, e2, Option.bind_some, if_true]
theorem gL_21 (hfu : 2000 < fu) (r1 : rdA xs L (x3 + (1 : Int32)) = some a1) (r2 : rdA xs L (x3 + (2 : Int32)) = some a2) (r3 : rdA xs L (x3 + (3 : Int32)) = some a3) (r4 : rdA xs L (x3 + (4 : Int32)) = some a4) (h : INV R HR HS HN M SV) (ht : TXT TB LN MX ML) : GO x3 (fL_law_c21 fu L xs R R2 HR HS HN TB LN PS TC TW TG CM M SV MX ML MA MH x3) := by
  by_cases hz : a2 = (0 : Int32)
  · obtain ⟨v, R', HR', HS', HN', M', SV', e1, e2, h1⟩ := leave_pair (fu := fu) (by omega) h a1 false
    refine ⟨R', R2, HR', HS', HN', TB, LN, PS, TC, TW, TG, CM, M', SV', MX, ML, MA, MH, ?_, h1, ht⟩
    unfold fL_law_c21
    simp only [r1, r2, if_pos hz, e1, e2, Option.bind_some, if_true]
  · obtain ⟨v, R', HR', HS', HN', M', SV', e1, e2, h1⟩ := leave_pair (fu := fu) (by omega) h a1 true
    refine ⟨R', R2, HR', HS', HN', TB, LN, PS, TC, TW, TG, CM, M', SV', MX, ML, MA, MH, ?_, h1, ht⟩
    unfold fL_law_c21
    simp only [r1, r2, if_neg hz, e1, e2, Option.bind_some, if_true]
theorem gL_22 (hfu : 2000 < fu) (r1 : rdA xs L (x3 + (1 : Int32)) = some a1) (r2 : rdA xs L (x3 + (2 : Int32)) = some a2) (r3 : rdA xs L (x3 + (3 : Int32)) = some a3) (r4 : rdA xs L (x3 + (4 : Int32)) = some a4) (h : INV R HR HS HN M SV) (ht : TXT TB LN MX ML) : GO x3 (fL_law_c22 fu L xs R R2 HR HS HN TB LN PS TC TW TG CM M SV MX ML MA MH x3) := by
  obtain ⟨v, R', HR', HS', HN', M', SV', e1, e2, h1⟩ := override_pair (fu := fu) (by omega) h a1 a2
  refine ⟨R', R2, HR', HS', HN', TB, LN, PS, TC, TW, TG, CM, M', SV', MX, ML, MA, MH, ?_, h1, ht⟩
  unfold fL_law_c22
  simp only [r1, r2, e1, e2, Option.bind_some, if_true]
theorem gL_23 (hfu : 2000 < fu) (r1 : rdA xs L (x3 + (1 : Int32)) = some a1) (r2 : rdA xs L (x3 + (2 : Int32)) = some a2) (r3 : rdA xs L (x3 + (3 : Int32)) = some a3) (r4 : rdA xs L (x3 + (4 : Int32)) = some a4) (h : INV R HR HS HN M SV) (ht : TXT TB LN MX ML) : GO x3 (fL_law_c23 fu L xs R R2 HR HS HN TB LN PS TC TW TG CM M SV MX ML MA MH x3) := by
  obtain ⟨v, e1, e2⟩ := notes_pair h
  refine ⟨R, R2, HR, HS, HN, TB, LN, PS, TC, TW, TG, CM, M, SV, MX, ML, MA, MH, ?_, h, ht⟩
  unfold fL_law_c23
  simp only [e1, e2, Option.bind_some, if_true]
theorem gL_24 (hfu : 2000 < fu) (r1 : rdA xs L (x3 + (1 : Int32)) = some a1) (r2 : rdA xs L (x3 + (2 : Int32)) = some a2) (r3 : rdA xs L (x3 + (3 : Int32)) = some a3) (r4 : rdA xs L (x3 + (4 : Int32)) = some a4) (h : INV R HR HS HN M SV) (ht : TXT TB LN MX ML) : GO x3 (fL_law_c24 fu L xs R R2 HR HS HN TB LN PS TC TW TG CM M SV MX ML MA MH x3) := by
  obtain ⟨v, e1, e2⟩ := note_pair h a1 a2
  refine ⟨R, R2, HR, HS, HN, TB, LN, PS, TC, TW, TG, CM, M, SV, MX, ML, MA, MH, ?_, h, ht⟩
  unfold fL_law_c24
  simp only [r1, r2, e1, e2, Option.bind_some, if_true]
theorem gL_25 (hfu : 2000 < fu) (r1 : rdA xs L (x3 + (1 : Int32)) = some a1) (r2 : rdA xs L (x3 + (2 : Int32)) = some a2) (r3 : rdA xs L (x3 + (3 : Int32)) = some a3) (r4 : rdA xs L (x3 + (4 : Int32)) = some a4) (h : INV R HR HS HN M SV) (ht : TXT TB LN MX ML) : GO x3 (fL_law_c25 fu L xs R R2 HR HS HN TB LN PS TC TW TG CM M SV MX ML MA MH x3) := by
  obtain ⟨v, R', HR', HS', HN', M', SV', e1, e2, h1⟩ := clearNotes_pair (fu := fu) (by omega) h
  refine ⟨R', R2, HR', HS', HN', TB, LN, PS, TC, TW, TG, CM, M', SV', MX, ML, MA, MH, ?_, h1, ht⟩
  unfold fL_law_c25
  simp only [e1, e2, Option.bind_some, if_true]
theorem gL_26 (hfu : 2000 < fu) (r1 : rdA xs L (x3 + (1 : Int32)) = some a1) (r2 : rdA xs L (x3 + (2 : Int32)) = some a2) (r3 : rdA xs L (x3 + (3 : Int32)) = some a3) (r4 : rdA xs L (x3 + (4 : Int32)) = some a4) (h : INV R HR HS HN M SV) (ht : TXT TB LN MX ML) : GO x3 (fL_law_c26 fu L xs R R2 HR HS HN TB LN PS TC TW TG CM M SV MX ML MA MH x3) := by
  obtain ⟨n, p, sv, hR, hW, hH, rfl, rfl, rfl⟩ := h
  obtain ⟨v, R', M', n', p', sv', e1, e2, q1, q2, q3⟩ := undo_pair (fu := fu) (by omega) hR hW hH
  refine ⟨R', R2, HR, nI sv', nI p', TB, LN, PS, TC, TW, TG, CM, M', nI sv', MX, ML, MA, MH, ?_, ⟨n', p', sv', q1, q2, q3, rfl, rfl, rfl⟩, ht⟩
  unfold fL_law_c26
  simp only [e1, e2, Option.bind_some, if_true]
theorem gL_27 (hfu : 2000 < fu) (r1 : rdA xs L (x3 + (1 : Int32)) = some a1) (r2 : rdA xs L (x3 + (2 : Int32)) = some a2) (r3 : rdA xs L (x3 + (3 : Int32)) = some a3) (r4 : rdA xs L (x3 + (4 : Int32)) = some a4) (h : INV R HR HS HN M SV) (ht : TXT TB LN MX ML) : GO x3 (fL_law_c27 fu L xs R R2 HR HS HN TB LN PS TC TW TG CM M SV MX ML MA MH x3) := by
  obtain ⟨v, TB', LN', MX', ML', e1, e2, t1⟩ := type_p ht a1
  refine ⟨R, R2, HR, HS, HN, TB', LN', PS, TC, TW, TG, CM, M, SV, MX', ML', MA, MH, ?_, h, t1⟩
  unfold fL_law_c27
  simp only [r1, e1, e2, Option.bind_some, if_true]
theorem gL_28 (hfu : 2000 < fu) (r1 : rdA xs L (x3 + (1 : Int32)) = some a1) (r2 : rdA xs L (x3 + (2 : Int32)) = some a2) (r3 : rdA xs L (x3 + (3 : Int32)) = some a3) (r4 : rdA xs L (x3 + (4 : Int32)) = some a4) (h : INV R HR HS HN M SV) (ht : TXT TB LN MX ML) : GO x3 (fL_law_c28 fu L xs R R2 HR HS HN TB LN PS TC TW TG CM M SV MX ML MA MH x3) := by
  obtain ⟨v, LN', ML', e1, e2, t1⟩ := clearText_p ht
  refine ⟨R, R2, HR, HS, HN, TB, LN', PS, TC, TW, TG, CM, M, SV, MX, ML', MA, MH, ?_, h, t1⟩
  unfold fL_law_c28
  simp only [e1, e2, Option.bind_some, if_true]
theorem gL_29 (hfu : 2000 < fu) (r1 : rdA xs L (x3 + (1 : Int32)) = some a1) (r2 : rdA xs L (x3 + (2 : Int32)) = some a2) (r3 : rdA xs L (x3 + (3 : Int32)) = some a3) (r4 : rdA xs L (x3 + (4 : Int32)) = some a4) (h : INV R HR HS HN M SV) (ht : TXT TB LN MX ML) : GO x3 (fL_law_c29 fu L xs R R2 HR HS HN TB LN PS TC TW TG CM M SV MX ML MA MH x3) := by
  obtain ⟨v, PS', TC', TW', TG', CM', M', MA', e1, e2, h1⟩ := textFault_p (TC := TC) (TW := TW) (TG := TG) hfu h ht
  refine ⟨R, R2, HR, HS, HN, TB, LN, PS', TC', TW', TG', CM', M', SV, MX, ML, MA', MH, ?_, h1, ht⟩
  unfold fL_law_c29
  simp only [e1, e2, Option.bind_some, if_true]
theorem gL_30 (hfu : 2000 < fu) (r1 : rdA xs L (x3 + (1 : Int32)) = some a1) (r2 : rdA xs L (x3 + (2 : Int32)) = some a2) (r3 : rdA xs L (x3 + (3 : Int32)) = some a3) (r4 : rdA xs L (x3 + (4 : Int32)) = some a4) (h : INV R HR HS HN M SV) (ht : TXT TB LN MX ML) : GO x3 (fL_law_c30 fu L xs R R2 HR HS HN TB LN PS TC TW TG CM M SV MX ML MA MH x3) := by
  obtain ⟨v, R', HR', HS', HN', PS', TC', TW', TG', CM', M', SV', MA', e1, e2, h1⟩ := command_p (TC := TC) (TW := TW) (TG := TG) hfu h ht
  refine ⟨R', R2, HR', HS', HN', TB, LN, PS', TC', TW', TG', CM', M', SV', MX, ML, MA', MH, ?_, h1, ht⟩
  unfold fL_law_c30
  simp only [e1, e2, Option.bind_some, if_true]
theorem gL_31 (hfu : 2000 < fu) (r1 : rdA xs L (x3 + (1 : Int32)) = some a1) (r2 : rdA xs L (x3 + (2 : Int32)) = some a2) (r3 : rdA xs L (x3 + (3 : Int32)) = some a3) (r4 : rdA xs L (x3 + (4 : Int32)) = some a4) (h : INV R HR HS HN M SV) (ht : TXT TB LN MX ML) : GO x3 (fL_law_c31 fu L xs R R2 HR HS HN TB LN PS TC TW TG CM M SV MX ML MA MH x3) := by
  obtain ⟨v, e1, e2⟩ := digest_p hfu h
  refine ⟨R, R2, HR, HS, HN, TB, LN, PS, TC, TW, TG, CM, M, SV, MX, ML, MA, v, ?_, h, ht⟩
  unfold fL_law_c31
  simp only [cmp_self, e1, e2, Option.bind_some, if_true]
end LAWP
