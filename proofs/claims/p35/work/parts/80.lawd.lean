/-! p35: the law's last stretch, and its start -/
section LWD
variable {R R2 T HR M : Nat → Int32} {HS HN : Int32} {n c fu t L : Nat} {xs : Nat → Int32}
theorem law_731 (hR : Rel R M n) (hW : WF M n) (h0 : 0 < n) (hfu : 2000 < fu) : fL_law_J731 fu R T HR HS HN = some true := by
  obtain ⟨q, hq, h3⟩ := hW.2.1
  have hd := digest_x hR hW (show 50 < fu by omega)
  unfold fL_law_J731
  refine obs hd ?_
  refine obs (addCrane_bad R HR HS HN) ?_
  dsimp only
  rw [if_pos rfl]
  refine obs (setArc_bad6 hR h0) ?_
  dsimp only
  rw [if_pos rfl]
  refine obs (setArc_bad36 hR h0) ?_
  dsimp only
  rw [if_pos rfl]
  refine obs (slew_bad hR h0) ?_
  dsimp only
  rw [if_pos rfl]
  refine obs (tick_bad R HR HS HN) ?_
  dsimp only
  rw [if_pos rfl]
  refine obs (override_bad hR h0) ?_
  dsimp only
  rw [if_pos rfl]
  refine obs (crane_bad hR h0) ?_
  rw [if_pos rfl]
  refine obs (notes_x hR) ?_
  rw [h3]
  refine obs (note_bad hR hq h3) ?_
  rw [if_pos rfl]
  refine obs (waits_bad hR h0) ?_
  dsimp only
  rw [if_pos rfl]
  refine obs hd ?_
  rw [cmp_self, if_pos rfl]
theorem law_678 (hR : Rel R M n) (hc : c < n) (hfu : 2000 < fu) (hl : lft M c = true) {w : Nat} (e0 : F M c 0 = nI w) : fL_law_L678 fu (nI n) (nI w) (R, T, HR, HS, HN, nI c) = some (.inl (R, T, HR, HS, HN, nI (c + 1))) := by
  have hn := hR.1
  unfold fL_law_L678
  dsimp only
  rw [if_neg (q_nle hc (by omega))]
  refine obs (crane0 hR hc (by omega)) ?_
  rw [e0, if_pos rfl]
  refine obs (show fX3_slew R HR HS HN (nI c) (0 : Int32) (0 : Int32) = some ((-103 : Int32), R, HR, HS, HN) from slew_b (t := 0) hR hc (by decide) (by decide) (by decide) (by rw [hl, Bool.or_true])) ?_
  dsimp only
  rw [if_pos rfl]
  refine obs (show fX3_setArc fu R T HR HS HN (nI c) (0 : Int32) (0 : Int32) (0 : Int32) = some ((-103 : Int32), R, T, HR, HS, HN) from setArc_l (z := 0) (a := 0) (b := 0) hR hc (by decide) (by decide) (by decide) hl) ?_
  dsimp only
  rw [if_pos rfl, nI_1]
theorem law_668 (hR : Rel R M n) (hG : GD M n) (hH : HI HS HN) (hn0 : 0 < n) (hfu : 2000 < fu) (h0 : M 0 = nI t) (ht : t ≤ 1000) {w : Nat} (hw : w < 36) (h1 : M 1 = nI w) (hl : ∀ c, c < n → lft M c = true) (R2 : Nat → Int32) : fL_law_J668 fu R R2 HR HS HN (nI w) (nI n) = some true := by
  have hn := hR.1
  obtain ⟨R', HR', HS', HN', k1, k2, k3⟩ := tick_x (fu := fu) (HR := HR) hR (GD_wf hG) hH (by omega) (w := 18) (by decide) (by decide) h0 (by omega)
  have hG' := GD_it hG 18
  have hall : ∀ c, c < n → lft (itM M n 18) c = true ∧ F (itM M n 18) c 0 = nI w := by
    intro c hc
    obtain ⟨a, b, p, g, e0, ha, -⟩ := hG.2.2 c hc
    obtain ⟨z1, z2, -⟩ := lft_it hG hc (hl c hc) hw h1 ha e0 18
    rw [a_wit w hw a ha] at z2
    exact ⟨z1, z2⟩
  have k1 : fX3_tick fu R HR HS HN (18 : Int32) = some (nI (t + 18), R', HR', HS', HN') := k1
  unfold fL_law_J668
  refine obs k1 ?_
  dsimp only
  refine lp_go (body := fL_law_L678 fu (nI n) (nI w)) (fun i => (R', R2, HR', HS', HN', nI i)) n _ (by omega) (fun i hi => law_678 k3 hi hfu (hall i hi).1 (hall i hi).2) ?_
  unfold fL_law_L678
  dsimp only
  rw [if_pos (q_le (Nat.le_refl n) (by omega))]
  refine obs (law_731 k3 (GD_wf hG') hn0 hfu) ?_
  rfl
/-- what holds while they are left to the wind, one after the other -/
def LV (M : Nat → Int32) (n t w i : Nat) : Prop := GD M n ∧ NA M n ∧ M 0 = nI t ∧ M 1 = nI w ∧ (∀ c, c < n → hasT M c = false) ∧ ∀ c, c < i → lft M c = true
theorem LV_ok {w : Nat} (h : LV M n t w c) (hc : c < n) : lft M c = true ∨ bad M n c = false := by
  obtain ⟨hG, hA, -, -, hT, -⟩ := h
  right
  have ho : ons M c = false := by
    obtain ⟨a, b, p, g, h0, ha, h1, hb1, hb5, h2, hp, h5, hg, hh⟩ := hG.2.2 c hc
    rcases hh with ⟨-, -, hg0, -⟩ | ⟨d, hd, -, h3, -⟩
    · unfold ons
      rw [h5, hg0]
      rfl
    · have := hT c hc
      rw [is_T hd h3] at this
      cases this
  unfold bad
  rw [ho, Bool.false_or]
  refine anyN_false (fun z hz q => ?_)
  unfold lvZ at q
  rw [Bool.and_eq_true] at q
  have hh := q.1
  unfold hasA at hh
  rw [if_pos (hA c hc z hz)] at hh
  cases hh
theorem LV_step {w i : Nat} (h : LV M n t w i) (hc : c < n) (hb : lft M c = true ∨ bad M n c = false) : LV (lvM M c) n t w i := by
  obtain ⟨hG, hA, e0, e1, hT, hl⟩ := h
  refine ⟨GD_leave hG hc hb, fun d hd z hz => ?_, by rw [lvM_lo (by decide)]; exact e0, by rw [lvM_lo (by decide)]; exact e1, fun d hd => ?_, fun d hd => ?_⟩
  · by_cases e : d = c
    · subst e
      rw [lvM_F, if_neg (show ¬ 9 + 2 * z = 7 by omega), if_neg (show ¬ 9 + 2 * z = 4 by omega), if_neg (show ¬ 9 + 2 * z = 3 by omega)]
      exact hA d hd z hz
    · rw [lvM_Fne e (by omega)]
      exact hA d hd z hz
  · by_cases e : d = c
    · subst e
      exact no_T (by rw [lvM_F]; rfl)
    · have := hT d hd
      unfold hasT at this ⊢
      rw [lvM_Fne e (by decide)]
      exact this
  · by_cases e : d = c
    · subst e
      exact lft_1.mpr (by rw [lvM_F]; rfl)
    · have := hl d hd
      unfold lft at this ⊢
      rw [lvM_Fne e (by decide)]
      exact this
theorem lvM_l : lft (lvM M c) c = true := lft_1.mpr (by rw [lvM_F]; rfl)
theorem law_633 (hR : Rel R M n) (hH : HI HS HN) (hfu : 2000 < fu) (hc : c < n) {w : Nat} (h : LV M n t w c) (R2 : Nat → Int32) (y4 : Int32) : ∃ (R' HR' M' : Nat → Int32) (HS' HN' : Int32), fL_law_L633 fu R2 (nI n) y4 (R, HR, HS, HN, nI c) = some (.inl (R', HR', HS', HN', nI (c + 1))) ∧ Rel R' M' n ∧ HI HS' HN' ∧ LV M' n t w (c + 1) := by
  have hn := hR.1
  have hb := LV_ok h hc
  obtain ⟨R1, HR1, HS1, HN1, a1, a2, a3⟩ := leave_x (fu := fu) (HR := HR) hR hH hc (by omega) hb
  have h2 := LV_step h hc hb
  obtain ⟨R', HR', HS', HN', b1, b2, b3⟩ := leave_x (fu := fu) (HR := HR1) a3 a2.hi hc (by omega) (Or.inl lvM_l)
  have h3 := LV_step h2 hc (Or.inl lvM_l)
  rw [lvM_l, if_pos rfl] at b1
  refine ⟨R', HR', lvM (lvM M c) c, HS', HN', ?_, b3, b2.hi, h3.1, h3.2.1, h3.2.2.1, h3.2.2.2.1, h3.2.2.2.2.1, fun d hd => ?_⟩
  · unfold fL_law_L633
    dsimp only
    rw [if_neg (q_nle hc (by omega))]
    refine obs a1 ?_
    dsimp only
    rw [if_neg (show ¬ (if lft M c = true then (1 : Int32) else 0) < 0 by split <;> decide)]
    refine obs b1 ?_
    dsimp only
    rw [if_pos rfl, nI_1]
  · by_cases e : d = c
    · subst e
      exact lvM_l
    · exact h3.2.2.2.2.2 d (by omega)
theorem law_591 (hR : Rel R M n) (hG : GD M n) (hA : NA M n) (hH : HI HS HN) (hn0 : 0 < n) (hfu : 2000 < fu) (h0 : M 0 = nI t) (ht : t ≤ 500) (T : Nat → Int32) (y2 : Int32) : fL_law_J591 fu R T HR HS HN (nI n) y2 = some true := by
  have hn := hR.1
  obtain ⟨w, hw, e1⟩ := low_e (jshr y2 (4 : Int32)) (m := 36) (by decide) (by decide)
  obtain ⟨R1, HR1, HS1, HN1, a1, a2, a3⟩ := setWind_x (HR := HR) hR hH hw
  have hG1 : GD (upd M 1 (nI w)) n := ⟨⟨w, hw, upd_eq⟩, by rw [upd_ne (by decide)]; exact hG.2.1, fun d hd => GC_congr (hG.2.2 d hd) (fun k hk _ _ _ => F_low (by decide))⟩
  have hA1 : NA (upd M 1 (nI w)) n := fun d hd z hz => by rw [F_low (by decide)]; exact hA d hd z hz
  have h01 : upd M 1 (nI w) 0 = nI t := by rw [upd_ne (by decide)]; exact h0
  obtain ⟨R2, HR2, HS2, HN2, b1, b2, b3⟩ := tick_x (fu := fu) (HR := HR1) a3 (GD_wf hG1) a2.hi (by omega) (w := 175) (by decide) (by decide) h01 (by omega)
  have b1 : fX3_tick fu R1 HR1 HS1 HN1 (175 : Int32) = some (nI (t + 175), R2, HR2, HS2, HN2) := b1
  have hG2 := GD_it hG1 175
  have hT2 : ∀ c, c < n → hasT (itM (upd M 1 (nI w)) n 175) c = false := by
    intro c hc
    obtain ⟨N0, hN0, e0, -⟩ := need_e (hG1.2.2 c hc)
    have h := NA_hasT hG1 hA1 hc e0 hN0 175
    cases q : hasT (itM (upd M 1 (nI w)) n 175) c with
    | false => rfl
    | true =>
      have := h.mp q
      omega
  obtain ⟨T', hd⟩ := allDone_e (T := T) hfu b3 (GD_wf hG2)
  have hz : vf (itM (upd M 1 (nI w)) n 175) n (gAll n) 0 1000 = 0 := by
    have hg : gAll n (itM (itM (upd M 1 (nI w)) n 175) n 0) = false := by
      cases q : gAll n (itM (itM (upd M 1 (nI w)) n 175) n 0) with
      | false => rfl
      | true =>
        obtain ⟨c, hc, hp⟩ := gAll_iff.mp q
        have := hT2 c hc
        have hp : hasT (itM (upd M 1 (nI w)) n 175) c = true := hp
        rw [this] at hp
        cases hp
    show (if gAll n (itM (itM (upd M 1 (nI w)) n 175) n 0) = true then _ else nI 0) = 0
    rw [hg]
    rfl
  rw [hz] at hd
  have hLV : LV (itM (upd M 1 (nI w)) n 175) n (t + 175) w 0 := ⟨hG2, NA_it hG1 hA1 175, by rw [itM_0, h01]; exact nI_add t 175, by rw [itM_lo (by decide) (by decide), upd_eq], hT2, fun c hc => absurd hc (by omega)⟩
  obtain ⟨r, h1, h2⟩ := lp_ex (body := fL_law_L633 fu T' (nI n) (nI w)) (fun i (s : (Nat → Int32) × (Nat → Int32) × Int32 × Int32 × Int32) => (∃ M', Rel s.1 M' n ∧ LV M' n (t + 175) w i) ∧ HI s.2.2.1 s.2.2.2.1 ∧ s.2.2.2.2 = nI i) (fun r => r = true) n
    (by
      rintro i hi ⟨Y, H3, a, b, t3⟩ ⟨⟨M', q1, q2⟩, q3, q4⟩
      dsimp only at q1 q3 q4
      subst q4
      obtain ⟨R', HR', M'', HS', HN', z1, z2, z3, z4⟩ := law_633 (HR := H3) q1 q3 hfu hi q2 T' (nI w)
      exact ⟨_, z1, ⟨M'', z2, z4⟩, z3, rfl⟩)
    (by
      rintro ⟨Y, H3, a, b, t3⟩ ⟨⟨M', q1, q2⟩, q3, q4⟩
      dsimp only at q1 q3 q4
      subst q4
      refine ⟨true, ?_, rfl⟩
      unfold fL_law_L633
      dsimp only
      rw [if_pos (q_le (Nat.le_refl n) (by omega))]
      refine obs (law_668 (HR := H3) q1 q2.1 q3 hn0 hfu q2.2.2.1 (by omega) hw q2.2.2.2.1 q2.2.2.2.2.2 T') ?_
      rfl)
    n fu 0 (R2, HR2, HS2, HN2, (0 : Int32)) (by omega) (by omega) ⟨⟨_, b3, hLV⟩, b2.hi, rfl⟩
  subst h2
  unfold fL_law_J591
  refine obs e1 ?_
  refine obs a1 ?_
  dsimp only
  refine obs b1 ?_
  dsimp only
  rw [if_neg (show ¬ nI (t + 175) < (175 : Int32) from q_nlt (b := 175) (by omega) (by omega))]
  refine obs hd ?_
  dsimp only
  rw [if_pos rfl]
  exact h1
/-- all that comes behind the 22 calls -/
theorem law_tail (hO : OK R M n t) (hH : HI HS HN) (hn0 : 0 < n) (hfu : 2000 < fu) (ht : t ≤ 300) (R2 : Nat → Int32) (y2 : Int32) : fL_law_J269 fu R R2 HR HS HN (nI n) y2 = some true := by
  refine law_269 hO.1.1 hO hH hfu R2 y2 (fun R1 HR1 M1 HS1 HN1 q1 q2 q3 q4 => ?_)
  refine law_497 q1 q2 q3 q4 hfu y2 (fun R3 HR3 M3 HS3 HN3 z1 z2 z3 z4 z5 => ?_)
  exact law_537 z1 z2 z5 hfu y2 (fun T' => law_591 z1 z2 z5 z4 hn0 hfu z3 (by omega) T' y2)
end LWD
