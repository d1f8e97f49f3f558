/-! p35: without arcs nobody waits; in the wind all come to its angle -/
section LWC
variable {R R2 T HR M : Nat → Int32} {HS HN : Int32} {n c fu t : Nat}
def NA (M : Nat → Int32) (n : Nat) : Prop := ∀ c, c < n → ∀ z, z < 6 → F M c (9 + 2 * z) = -100
theorem tn_hi (b : Bool) {k : Nat} (h9 : 9 ≤ k) : F (tn M c b) c k = F M c k := by
  unfold tn
  split
  · exact F_nk (by omega)
  · split
    · exact F_nk (by omega)
    · split
      · split
        · rw [stpP_F, if_neg (show ¬ k = 4 by omega), if_neg (show ¬ k = 3 by omega), if_neg (show ¬ k = 8 by omega), if_neg (show ¬ k = 5 by omega), if_neg (show ¬ k = 0 by omega)]
          split <;> rfl
        · exact F_nk (by omega)
      · rfl
theorem NA_it (hG : GD M n) (h : NA M n) (i : Nat) : NA (itM M n i) n := by
  induction i with
  | zero => exact h
  | succ i ih =>
    intro c hc z hz
    obtain ⟨b, -, b2, -⟩ := tick_tn (GD_it hG i) hc
    have : F (itM M n (i + 1)) c (9 + 2 * z) = F (tn (itM M n i) c b) c (9 + 2 * z) := b2 _ (by omega)
    rw [this, tn_hi b (by omega)]
    exact ih c hc z hz
/-- without arcs a crane needs one tick less behind each tick, and never waits -/
theorem NA_need (hG : GD M n) (h : NA M n) (hc : c < n) {N0 : Nat} (h0 : need M c = nI N0) (hN0 : N0 ≤ 175) : ∀ i, F (itM M n i) c 6 = F M c 6 ∧ need (itM M n i) c = nI (N0 - i) := by
  intro i
  induction i with
  | zero => exact ⟨rfl, h0⟩
  | succ i ih =>
    obtain ⟨e6, eN⟩ := ih
    have hGi := GD_it hG i
    obtain ⟨b, b1, b2, b3⟩ := tick_tn hGi hc
    have hb := b3 (fun z hz => NA_it hG h i c hc z hz)
    subst hb
    obtain ⟨q1, q2⟩ := need_congr (M := tn (itM M n i) c false) (M' := itM M n (i + 1)) (c := c) (fun k hk _ => b2 k (by omega))
    have q6 : F (itM M n (i + 1)) c 6 = F (tn (itM M n i) c false) c 6 := b2 6 (by decide)
    obtain ⟨t1, t2, t3⟩ := tn_need (hGi.2.2 c hc) false
    cases hT : hasT (itM M n i) c with
    | false =>
      obtain ⟨N', hN', eN', hz⟩ := need_e (hGi.2.2 c hc)
      have hzz : N0 - i = 0 := by
        have e : nI (N0 - i) = nI N' := eN.symm.trans eN'
        have : N0 - i = N' := (nI_eq (by omega) (by omega)).mp e
        have h2 : ¬ N' ≠ 0 := fun z => by rw [hz.mpr z] at hT; cases hT
        omega
      refine ⟨by rw [q6, tn_wait0 hT, e6], ?_⟩
      rcases t1 hT with z | z
      · rw [q1, show N0 - (i + 1) = 0 by omega]
        unfold need
        rw [z]
        rfl
      · cases z
    | true =>
      obtain ⟨N', z1, z2, z3, z4⟩ := t3 hT rfl
      have hNN : N0 - i = N' + 1 := (nI_eq (by omega) (by omega)).mp (eN.symm.trans z1)
      exact ⟨by rw [q6, z4, e6], by rw [q1, z3, show N0 - (i + 1) = N' by omega]⟩
theorem NA_hasT (hG : GD M n) (h : NA M n) (hc : c < n) {N0 : Nat} (h0 : need M c = nI N0) (hN0 : N0 ≤ 175) (i : Nat) : hasT (itM M n i) c = true ↔ i < N0 := by
  obtain ⟨-, eN⟩ := NA_need hG h hc h0 hN0 i
  obtain ⟨N', hN', eN', hz⟩ := need_e ((GD_it hG i).2.2 c hc)
  have : N0 - i = N' := (nI_eq (by omega) (by omega)).mp (eN.symm.trans eN')
  rw [hz]
  omega
theorem NA_done (hG : GD M n) (h : NA M n) (hc : c < n) : dN M n c = need M c := by
  obtain ⟨N0, hN0, e0, -⟩ := need_e (hG.2.2 c hc)
  have hT := NA_hasT hG h hc e0 hN0
  rcases dN_spec M n c with ⟨k, k1, k2, k3, k4⟩ | ⟨-, k2⟩
  · rw [k2, e0]
    congr 1
    have h1 : ¬ k < N0 := fun z => by rw [(hT k).mpr z] at k3; cases k3
    have h2 : ∀ j, j < k → j < N0 := fun j hj => (hT j).mp (k4 j hj)
    by_cases z : k = N0
    · exact z
    · have := h2 N0 (by omega)
      omega
  · have := (hT N0).mp (k2 N0 (by omega))
    omega
theorem NA_blk (h : NA M n) (hc : c < n) : blk M n c = false := by
  cases hb : blk M n c with
  | false => rfl
  | true =>
    exfalso
    apply (blk_iff.mp hb).2.2
    refine lowf_none (fun o _ ho => ?_)
    obtain ⟨-, z, hz6, q, -⟩ := iwP_iff.mp ho
    unfold cont at q
    rw [if_pos (h c hc z hz6)] at q
    cases q
/-! the arcs are removed -/
theorem law_509 (hR : Rel R M n) (hG : GD M n) (h0 : M 0 = nI t) (hH : HI HS HN) (hfu : 2000 < fu) (hc : c < n) (hA : ∀ d, d < c → ∀ z, z < 6 → F M d (9 + 2 * z) = -100) : ∃ (R' HR' M' : Nat → Int32) (HS' HN' : Int32), lp (fL_law_L509 (nI c)) fu (R, HR, HS, HN, (0 : Int32)) = some (.inl (R', HR', HS', HN', nI (c + 1))) ∧ Rel R' M' n ∧ GD M' n ∧ M' 0 = nI t ∧ HI HS' HN' ∧ ∀ d, d < c + 1 → ∀ z, z < 6 → F M' d (9 + 2 * z) = -100 := by
  obtain ⟨r, h1, h2⟩ := lp_ex (body := fL_law_L509 (nI c)) (fun i (s : (Nat → Int32) × (Nat → Int32) × Int32 × Int32 × Int32) => (∃ M', Rel s.1 M' n ∧ GD M' n ∧ M' 0 = nI t ∧ (∀ d, d < c → ∀ z, z < 6 → F M' d (9 + 2 * z) = -100) ∧ ∀ z, z < i → F M' c (9 + 2 * z) = -100) ∧ HI s.2.2.1 s.2.2.2.1 ∧ s.2.2.2.2 = nI i) (fun r => ∃ (R' HR' M' : Nat → Int32) (HS' HN' : Int32), r = .inl (R', HR', HS', HN', nI (c + 1)) ∧ Rel R' M' n ∧ GD M' n ∧ M' 0 = nI t ∧ HI HS' HN' ∧ ∀ d, d < c + 1 → ∀ z, z < 6 → F M' d (9 + 2 * z) = -100) 6
    (by
      rintro i hi ⟨Y, H3, a, b, t3⟩ ⟨⟨M', q1, q2, q3, q4, q5⟩, q6, q7⟩
      dsimp only at q1 q6 q7
      subst q7
      obtain ⟨v, R', HR', HS', HN', z1, -, z2, z3⟩ := removeArc_x (HR := H3) q1 q6 hc hi
      refine ⟨(R', HR', HS', HN', nI (i + 1)), ?_, ⟨rmA M' c i, z3, (mv_rm q2 hi).1, ?_, ?_, ?_⟩, z2.hi, rfl⟩
      · unfold fL_law_L509
        dsimp only
        rw [if_neg (show ¬ (6 : Int32) ≤ nI i from q_nle (a := 6) hi (by decide))]
        refine obs z1 ?_
        dsimp only
        rw [nI_1]
      · unfold rmA
        rw [setF_lo (by decide), setF_lo (by decide)]
        exact q3
      · intro d hd z hz
        rw [rmA_Fne hi (by omega) (by omega)]
        exact q4 d hd z hz
      · intro z hz
        rw [rmA_F]
        by_cases e : z = i
        · subst e
          rw [if_neg (show ¬ 9 + 2 * z = 9 + 2 * z + 1 by omega), if_pos rfl]
        · rw [if_neg (show ¬ 9 + 2 * z = 9 + 2 * i + 1 by omega), if_neg (show ¬ 9 + 2 * z = 9 + 2 * i by omega)]
          exact q5 z (by omega))
    (by
      rintro ⟨Y, H3, a, b, t3⟩ ⟨⟨M', q1, q2, q3, q4, q5⟩, q6, q7⟩
      dsimp only at q1 q6 q7
      subst q7
      refine ⟨_, ?_, Y, H3, M', a, b, rfl, q1, q2, q3, q6, fun d hd z hz => ?_⟩
      · unfold fL_law_L509
        dsimp only
        rw [if_pos (show (6 : Int32) ≤ nI 6 from q_le (a := 6) (by decide) (by decide)), nI_1]
      · by_cases e : d = c
        · subst e
          exact q5 z hz
        · exact q4 d (by omega) z hz)
    6 fu 0 (R, HR, HS, HN, (0 : Int32)) (by omega) (by omega) ⟨⟨M, hR, hG, h0, hA, fun z hz => absurd hz (by omega)⟩, hH, rfl⟩
  obtain ⟨R', HR', M', HS', HN', rfl, z1, z2, z3, z4, z5⟩ := h2
  exact ⟨R', HR', M', HS', HN', h1, z1, z2, z3, z4, z5⟩
theorem law_497 (hR : Rel R M n) (hG : GD M n) (h0 : M 0 = nI t) (hH : HI HS HN) (hfu : 2000 < fu) (y2 : Int32) (next : ∀ (R' HR' M' : Nat → Int32) (HS' HN' : Int32), Rel R' M' n → GD M' n → M' 0 = nI t → HI HS' HN' → NA M' n → fL_law_J537 fu R' R2 HR' HS' HN' (nI n) y2 = some true) : fL_law_J497 fu R R2 HR HS HN (nI n) y2 = some true := by
  have hn := hR.1
  obtain ⟨r, h1, h2⟩ := lp_ex (body := fL_law_L500 fu R2 y2 (nI n)) (fun i (s : (Nat → Int32) × (Nat → Int32) × Int32 × Int32 × Int32) => (∃ M', Rel s.1 M' n ∧ GD M' n ∧ M' 0 = nI t ∧ ∀ d, d < i → ∀ z, z < 6 → F M' d (9 + 2 * z) = -100) ∧ HI s.2.2.1 s.2.2.2.1 ∧ s.2.2.2.2 = nI i) (fun r => r = true) n
    (by
      rintro i hi ⟨Y, H3, a, b, t3⟩ ⟨⟨M', q1, q2, q3, q4⟩, q5, q6⟩
      dsimp only at q1 q5 q6
      subst q6
      obtain ⟨R', HR', M'', HS', HN', z1, z2, z3, z4, z5, z6⟩ := law_509 (HR := H3) q1 q2 q3 q5 hfu hi q4
      refine ⟨(R', HR', HS', HN', nI (i + 1)), ?_, ⟨M'', z2, z3, z4, z6⟩, z5, rfl⟩
      unfold fL_law_L500
      dsimp only
      rw [if_neg (q_nle hi (by omega))]
      exact z1)
    (by
      rintro ⟨Y, H3, a, b, t3⟩ ⟨⟨M', q1, q2, q3, q4⟩, q5, q6⟩
      dsimp only at q1 q5 q6
      subst q6
      refine ⟨true, ?_, rfl⟩
      unfold fL_law_L500
      dsimp only
      rw [if_pos (q_le (Nat.le_refl n) (by omega))]
      refine obs (next Y H3 M' a b q1 q2 q3 q5 q4) ?_
      rfl)
    n fu 0 (R, HR, HS, HN, (0 : Int32)) (by omega) (by omega) ⟨⟨M, hR, hG, h0, fun d hd => absurd hd (by omega)⟩, hH, rfl⟩
  subst h2
  unfold fL_law_J497
  exact h1
theorem law_540 (hR : Rel R M n) (hG : GD M n) (hA : NA M n) (hfu : 2000 < fu) (hc : c < n) (y2 : Int32) : ∃ T', fL_law_L540 fu R HR HS HN y2 (nI n) (T, nI c) = some (.inl (T', nI (c + 1))) := by
  have hn := hR.1
  have hW := GD_wf hG
  obtain ⟨N0, hN0, e0, -⟩ := need_e (hG.2.2 c hc)
  obtain ⟨T1, hd⟩ := done_x (T := T) hR hW hc hfu
  have hd : fX3_done fu R T (nI c) = some (dN M n c, T1) := hd
  obtain ⟨T2, hw⟩ := waits_x (T := T1) hR hW hc hfu (w := 50) (by decide) (by decide)
  rw [(NA_need hG hA hc e0 hN0 50).1, Int32.sub_self] at hw
  refine ⟨T2, ?_⟩
  unfold fL_law_L540
  dsimp only
  rw [if_neg (q_nle hc (by omega))]
  refine obs (blocker_x hR hc (by omega)) ?_
  rw [NA_blk hA hc, if_neg (show ¬ false = true by decide), if_pos rfl]
  refine obs hd ?_
  refine obs (needs_x hR hW hc) ?_
  dsimp only
  rw [NA_done hG hA hc, if_pos rfl]
  refine obs hw ?_
  dsimp only
  rw [if_pos rfl, nI_1]
theorem law_537 (hR : Rel R M n) (hG : GD M n) (hA : NA M n) (hfu : 2000 < fu) (y2 : Int32) (next : ∀ T' : Nat → Int32, fL_law_J591 fu R T' HR HS HN (nI n) y2 = some true) : fL_law_J537 fu R R2 HR HS HN (nI n) y2 = some true := by
  have hn := hR.1
  obtain ⟨r, h1, h2⟩ := lp_ex (body := fL_law_L540 fu R HR HS HN y2 (nI n)) (fun i (s : (Nat → Int32) × Int32) => s.2 = nI i) (fun r => r = true) n
    (by
      rintro i hi ⟨T3, t3⟩ q
      dsimp only at q
      subst q
      obtain ⟨T', z⟩ := law_540 (T := T3) (HR := HR) (HS := HS) (HN := HN) hR hG hA hfu hi y2
      exact ⟨_, z, rfl⟩)
    (by
      rintro ⟨T3, t3⟩ q
      dsimp only at q
      subst q
      refine ⟨true, ?_, rfl⟩
      unfold fL_law_L540
      dsimp only
      rw [if_pos (q_le (Nat.le_refl n) (by omega))]
      refine obs (next T3) ?_
      rfl)
    n fu 0 (R2, (0 : Int32)) (by omega) (by omega) rfl
  subst h2
  unfold fL_law_J537
  exact h1
/-! the wind -/
def wst (w a : Nat) : Nat := if (w + 36 - a) % 36 = 0 then a else if 18 < (w + 36 - a) % 36 then (a + 35) % 36 else (a + 1) % 36
def wit (w a : Nat) : Nat → Nat
  | 0 => a
  | i + 1 => wst w (wit w a i)
theorem a_wst : ∀ w, w < 36 → ∀ a, a < 36 → wndF (nI a) (nI w) = nI (wst w a) ∧ wst w a < 36 := by decide +kernel
theorem a_wit : ∀ w, w < 36 → ∀ a, a < 36 → wit w a 18 = w := by decide +kernel
theorem lft_it (hG : GD M n) (hc : c < n) (hl : lft M c = true) {w a : Nat} (hw : w < 36) (h1 : M 1 = nI w) (ha : a < 36) (h0 : F M c 0 = nI a) : ∀ i, lft (itM M n i) c = true ∧ F (itM M n i) c 0 = nI (wit w a i) ∧ wit w a i < 36 := by
  intro i
  induction i with
  | zero => exact ⟨hl, h0, ha⟩
  | succ i ih =>
    obtain ⟨e1, e2, e3⟩ := ih
    obtain ⟨b, b1, b2, -⟩ := tick_tn (GD_it hG i) hc
    have et : tn (itM M n i) c b = setF (itM M n i) c 0 (wnd (itM M n i) c) := by
      unfold tn
      rw [if_pos e1]
    have q0 : F (itM M n (i + 1)) c 0 = wnd (itM M n i) c := by
      have : F (itM M n (i + 1)) c 0 = F (tn (itM M n i) c b) c 0 := b2 0 (by decide)
      rw [this, et, F_same]
    have q7 : F (itM M n (i + 1)) c 7 = F (itM M n i) c 7 := by
      have : F (itM M n (i + 1)) c 7 = F (tn (itM M n i) c b) c 7 := b2 7 (by decide)
      rw [this, et, F_nk (by decide)]
    have hm1 : itM M n i 1 = nI w := by rw [itM_lo (by decide) (by decide)]; exact h1
    obtain ⟨w1, w2⟩ := a_wst w hw _ e3
    refine ⟨?_, ?_, w2⟩
    · unfold lft at e1 ⊢
      rw [q7]
      exact e1
    · rw [q0, wnd_F, e2, hm1, w1]
      rfl
/-! the end -/
theorem addCrane_bad (R HR : Nat → Int32) (HS HN : Int32) : fX3_addCrane R HR HS HN (36 : Int32) (1 : Int32) (0 : Int32) = some ((-102 : Int32), R, HR, HS, HN) := by
  unfold fX3_addCrane
  refine obs (show fX3_isAngle (36 : Int32) = some false by rw [cIsAngle_e]; rfl) ?_
  rfl
theorem setArc_bad6 (hR : Rel R M n) (h0 : 0 < n) : fX3_setArc fu R T HR HS HN (0 : Int32) (6 : Int32) (0 : Int32) (0 : Int32) = some ((-101 : Int32), R, T, HR, HS, HN) := by
  unfold fX3_setArc
  refine obs (show fX1_hasCrane R (0 : Int32) = some true from hasC_y (c := 0) hR h0) ?_
  rw [if_pos rfl]
  refine obs (show fX3_isZone (6 : Int32) = some false by rw [cIsZone_e]; rfl) ?_
  rfl
theorem setArc_bad36 (hR : Rel R M n) (h0 : 0 < n) : fX3_setArc fu R T HR HS HN (0 : Int32) (0 : Int32) (36 : Int32) (0 : Int32) = some ((-102 : Int32), R, T, HR, HS, HN) := by
  unfold fX3_setArc
  refine obs (show fX1_hasCrane R (0 : Int32) = some true from hasC_y (c := 0) hR h0) ?_
  rw [if_pos rfl]
  refine obs (show fX3_isZone (0 : Int32) = some true from zon_y (z := 0) (by decide)) ?_
  rw [if_pos rfl]
  refine obs (show fX3_isAngle (36 : Int32) = some false by rw [cIsAngle_e]; rfl) ?_
  rfl
theorem slew_bad (hR : Rel R M n) (h0 : 0 < n) : fX3_slew R HR HS HN (0 : Int32) (0 : Int32) (2 : Int32) = some ((-102 : Int32), R, HR, HS, HN) := by
  unfold fX3_slew
  refine obs (show fX1_hasCrane R (0 : Int32) = some true from hasC_y (c := 0) hR h0) ?_
  rw [if_pos rfl]
  refine obs (show fX3_isAngle (0 : Int32) = some true from ang_y (a := 0) (by decide)) ?_
  rfl
theorem tick_bad (R HR : Nat → Int32) (HS HN : Int32) : fX3_tick fu R HR HS HN (201 : Int32) = some ((-102 : Int32), R, HR, HS, HN) := by
  unfold fX3_tick
  rfl
theorem override_bad (hR : Rel R M n) (h0 : 0 < n) : fX3_override fu R HR HS HN (0 : Int32) (10 : Int32) = some ((-102 : Int32), R, HR, HS, HN) := by
  unfold fX3_override
  refine obs (show fX1_hasCrane R (0 : Int32) = some true from hasC_y (c := 0) hR h0) ?_
  rfl
theorem crane_bad (hR : Rel R M n) (h0 : 0 < n) : fX3_crane fu R (0 : Int32) (10 : Int32) = some (-102 : Int32) := by
  unfold fX3_crane
  refine obs (show fX1_hasCrane R (0 : Int32) = some true from hasC_y (c := 0) hR h0) ?_
  rfl
theorem note_bad (hR : Rel R M n) {q : Nat} (hq : q ≤ 10) (h3 : M 3 = nI q) : fX3_note R (nI q) (0 : Int32) = some (-101 : Int32) := by
  unfold fX3_note fX1_noteCount
  rw [if_neg (nI_pos (by omega)), rdk3, hR.2.2.2.2.2.1, h3, Option.bind_some, Option.bind_some, if_neg (q_nlt (Nat.le_refl q) (by omega))]
theorem waits_bad (hR : Rel R M n) (h0 : 0 < n) : fX3_waits fu R T (0 : Int32) (0 : Int32) = some ((-102 : Int32), T) := by
  unfold fX3_waits
  refine obs (show fX1_hasCrane R (0 : Int32) = some true from hasC_y (c := 0) hR h0) ?_
  rfl
end LWC
