/-! p35: one call of the law's changes -/
section CHG
variable {R R2 HR M : Nat → Int32} {HS HN : Int32} {n c fu t : Nat}
/-- what holds between the calls of the first stretch -/
def OK (R : Nat → Int32) (M : Nat → Int32) (n t : Nat) : Prop := Rel R M n ∧ GD M n ∧ NC M n ∧ M 3 = 0 ∧ M 0 = nI t
def CHP (R HR : Nat → Int32) (HS HN : Int32) (M : Nat → Int32) (n t : Nat) (v : Int32) (R' HR' : Nat → Int32) (HS' HN' : Int32) : Prop := (v < -100 ∧ R' = R ∧ HR' = HR ∧ HS' = HS ∧ HN' = HN) ∨ (¬ v < -100 ∧ KP HR' HS' HN' M n ∧ ∃ M' t', OK R' M' n t' ∧ t' ≤ t + 12)
def OUTC (R HR : Nat → Int32) (HS HN : Int32) (M : Nat → Int32) (n t : Nat) (o : Option (Int32 × (Nat → Int32) × (Nat → Int32) × (Nat → Int32) × Int32 × Int32)) : Prop := ∃ (v : Int32) (R' T' HR' : Nat → Int32) (HS' HN' : Int32), o = some (v, R', T', HR', HS', HN') ∧ CHP R HR HS HN M n t v R' HR' HS' HN'
theorem outc_bind {α : Type} {x : Option α} {a : α} {f : α → Option (Int32 × (Nat → Int32) × (Nat → Int32) × (Nat → Int32) × Int32 × Int32)} (h : x = some a) (h2 : OUTC R HR HS HN M n t (f a)) : OUTC R HR HS HN M n t (Option.bind x f) := by
  rw [h]
  exact h2
theorem outc_err {v : Int32} (hv : v < -100) {T : Nat → Int32} : OUTC R HR HS HN M n t (some (v, R, T, HR, HS, HN)) := ⟨v, R, T, HR, HS, HN, rfl, Or.inl ⟨hv, rfl, rfl, rfl, rfl⟩⟩
theorem outc_ok {v : Int32} {R' T' HR' M' : Nat → Int32} {HS' HN' : Int32} {t' : Nat} (hv : ¬ v < -100) (hK : KP HR' HS' HN' M n) (hO : OK R' M' n t') (ht : t' ≤ t + 12) : OUTC R HR HS HN M n t (some (v, R', T', HR', HS', HN')) := ⟨v, R', T', HR', HS', HN', rfl, Or.inr ⟨hv, hK, M', t', hO, ht⟩⟩
theorem nlt_nI {k : Nat} (h : k < 2 ^ 31) : ¬ nI k < (-100 : Int32) := by
  intro e
  have h1 := Int32.lt_iff_toInt_lt.mp e
  rw [nI_toInt h] at h1
  have h2 : (-100 : Int32).toInt = -100 := by decide
  omega
theorem v01 {v : Int32} (h : v = 0 ∨ v = 1) : ¬ v < -100 := by
  rcases h with h | h <;> rw [h] <;> decide
theorem vif (b : Bool) : ¬ (if b = true then (1 : Int32) else 0) < -100 := by cases b <;> decide
theorem vm100 : ¬ (-100 : Int32) < -100 := by decide
theorem e101 : (-101 : Int32) < -100 := by decide
theorem e103 : (-103 : Int32) < -100 := by decide
theorem chg_prio (hO : OK R M n t) (hH : HI HS HN) (h4 : c < 4) (x : Int32) : OUTC R HR HS HN M n t (Option.bind (fL_low (jshr x (6 : Int32)) (10 : Int32)) fun v82 => Option.bind (fX3_setPriority R HR HS HN (nI c) v82) fun v84 => some (v84.1, v84.2.1, R2, v84.2.2.1, v84.2.2.2.1, v84.2.2.2.2)) := by
  obtain ⟨hR, hG, hN, h3, h0⟩ := hO
  obtain ⟨p, hp, e1⟩ := low_e (jshr x (6 : Int32)) (m := 10) (by decide) (by decide)
  refine outc_bind e1 ?_
  by_cases hc : c < n
  · obtain ⟨R', HR', HS', HN', k1, k2, k3⟩ := setPriority_x (HR := HR) hR hH hc (show p ≤ 9 by omega)
    obtain ⟨g1, g2⟩ := mv_prio (c := c) hG hN (show p ≤ 9 by omega)
    obtain ⟨a, b, q, g, -, -, -, -, -, h2, hp2, -⟩ := hG.2.2 c hc
    refine outc_bind k1 (outc_ok (t' := t) (by rw [h2]; exact nlt_nI (by omega)) k2 ⟨k3, g1, g2, by rw [setF_lo (by decide)]; exact h3, by rw [setF_lo (by decide)]; exact h0⟩ (by omega))
  · exact outc_bind (setPriority_n hR hc h4 _) (outc_err e101)
theorem chg_arc (hO : OK R M n t) (hH : HI HS HN) (hfu : 12 < fu) (h4 : c < 4) (x : Int32) : OUTC R HR HS HN M n t (Option.bind (fL_low (jshr x (6 : Int32)) (6 : Int32)) fun v87 => Option.bind (fL_low (jshr x (9 : Int32)) (36 : Int32)) fun v89 => Option.bind (fL_low (jshr x (14 : Int32)) (36 : Int32)) fun v91 => Option.bind (fX3_setArc fu R R2 HR HS HN (nI c) v87 v89 v91) fun v93 => some (v93.1, v93.2.1, v93.2.2.1, v93.2.2.2.1, v93.2.2.2.2.1, v93.2.2.2.2.2)) := by
  obtain ⟨hR, hG, hN, h3, h0⟩ := hO
  obtain ⟨z, hz, e1⟩ := low_e (jshr x (6 : Int32)) (m := 6) (by decide) (by decide)
  obtain ⟨a, ha, e2⟩ := low_e (jshr x (9 : Int32)) (m := 36) (by decide) (by decide)
  obtain ⟨b, hb, e3⟩ := low_e (jshr x (14 : Int32)) (m := 36) (by decide) (by decide)
  refine outc_bind e1 (outc_bind e2 (outc_bind e3 ?_))
  by_cases hc : c < n
  · by_cases hl : lft M c = true
    · exact outc_bind (setArc_l hR hc hz ha hb hl) (outc_err e103)
    · by_cases hw : (cnf (arcM M c z a b) n z && !cnf M n z) = true
      · obtain ⟨T', k1⟩ := setArc_b (T := R2) (HR := HR) (HS := HS) (HN := HN) hR hc hz ha hb hfu hl hw
        exact outc_bind k1 (outc_err e103)
      · have hw : (cnf (arcM M c z a b) n z && !cnf M n z) = false := by simpa using hw
        obtain ⟨v, R', T', HR', HS', HN', k1, k2, k3, k4⟩ := setArc_x (T := R2) (HR := HR) hR hH hc hz ha hb hfu hl hw
        obtain ⟨g1, g2⟩ := mv_arc hR.1 hG hN hz hw
        refine outc_bind k1 (outc_ok (t' := t) k2 k3 ⟨k4, g1, g2, ?_, ?_⟩ (by omega))
        · unfold arcM
          rw [setF_lo (by decide), setF_lo (by decide)]
          exact h3
        · unfold arcM
          rw [setF_lo (by decide), setF_lo (by decide)]
          exact h0
  · exact outc_bind (setArc_n hR hc h4 _ _ _) (outc_err e101)
theorem chg_rm (hO : OK R M n t) (hH : HI HS HN) (h4 : c < 4) (x : Int32) : OUTC R HR HS HN M n t (Option.bind (fL_low (jshr x (6 : Int32)) (6 : Int32)) fun v114 => Option.bind (fX3_removeArc R HR HS HN (nI c) v114) fun v116 => some (v116.1, v116.2.1, R2, v116.2.2.1, v116.2.2.2.1, v116.2.2.2.2)) := by
  obtain ⟨hR, hG, hN, h3, h0⟩ := hO
  obtain ⟨z, hz, e1⟩ := low_e (jshr x (6 : Int32)) (m := 6) (by decide) (by decide)
  refine outc_bind e1 ?_
  by_cases hc : c < n
  · obtain ⟨v, R', HR', HS', HN', k1, kv, k2, k3⟩ := removeArc_x (HR := HR) hR hH hc hz
    obtain ⟨g1, g2⟩ := mv_rm (c := c) hG hz
    refine outc_bind k1 (outc_ok (t' := t) (v01 kv) k2 ⟨k3, g1, g2 hN, ?_, ?_⟩ (by omega))
    · unfold rmA
      rw [setF_lo (by decide), setF_lo (by decide)]
      exact h3
    · unfold rmA
      rw [setF_lo (by decide), setF_lo (by decide)]
      exact h0
  · exact outc_bind (removeArc_n hR hc h4 _) (outc_err e101)
theorem chg_stop (hO : OK R M n t) (hH : HI HS HN) (h4 : c < 4) : OUTC R HR HS HN M n t (Option.bind (fX3_stop R HR HS HN (nI c)) fun v119 => some (v119.1, v119.2.1, R2, v119.2.2.1, v119.2.2.2.1, v119.2.2.2.2)) := by
  obtain ⟨hR, hG, hN, h3, h0⟩ := hO
  by_cases hc : c < n
  · by_cases ho : ons M c = true
    · exact outc_bind (stop_b hR hc ho) (outc_err e103)
    · obtain ⟨R', HR', HS', HN', k1, k2, k3⟩ := stop_x (HR := HR) hR hH hc ho
      obtain ⟨g1, g2⟩ := mv_noT (c := c) hG hN (by simpa using ho)
      refine outc_bind k1 (outc_ok (t' := t) ?_ k2 ⟨k3, g1, g2, by rw [noT_lo (by decide)]; exact h3, by rw [noT_lo (by decide)]; exact h0⟩ (by omega))
      obtain ⟨a, b, q, g, -, -, -, -, -, -, -, -, -, h⟩ := hG.2.2 c hc
      rcases h with ⟨e, -⟩ | ⟨t, ht, -, e, -⟩
      · rw [e]
        exact vm100
      · rw [e]
        exact nlt_nI (by omega)
  · exact outc_bind (stop_n hR hc h4) (outc_err e101)
theorem chg_round (hO : OK R M n t) (hH : HI HS HN) (h4 : c < 4) : OUTC R HR HS HN M n t (Option.bind (fX3_turnRound R HR HS HN (nI c)) fun v122 => some (v122.1, v122.2.1, R2, v122.2.2.1, v122.2.2.2.1, v122.2.2.2.2)) := by
  obtain ⟨hR, hG, hN, h3, h0⟩ := hO
  by_cases hc : c < n
  · by_cases hb : ¬ hasT M c = true ∨ ons M c = true
    · exact outc_bind (turnRound_b hR hc hb) (outc_err e103)
    · have hT : hasT M c = true := Classical.byContradiction fun q => hb (Or.inl q)
      have ho : ¬ ons M c = true := fun q => hb (Or.inr q)
      obtain ⟨a, b, q, g, e0, ha, -, -, -, -, -, -, -, h⟩ := hG.2.2 c hc
      rcases h with ⟨e, -⟩ | ⟨d, hd, hda, e, e4, -⟩
      · rw [no_T e] at hT
        cases hT
      · obtain ⟨R', HR', HS', HN', k1, k2, k3⟩ := turnRound_x (HR := HR) hR hH hc ⟨a, ha, e0⟩ ⟨d, hd, e⟩ e4 hT ho
        obtain ⟨g1, g2⟩ := mv_round (c := c) hG hN hT (by simpa using ho)
        have hneg : -(F M c 4) = 1 ∨ -(F M c 4) = -1 := by
          rcases e4 with z | z <;> rw [z]
          · exact Or.inr rfl
          · exact Or.inl (by decide)
        obtain ⟨w, hw⟩ := wI_of hneg
        refine outc_bind k1 (outc_ok (t' := t) ?_ k2 ⟨k3, g1, g2, by rw [setF_lo (by decide)]; exact h3, by rw [setF_lo (by decide)]; exact h0⟩ (by omega))
        rw [e, hw, stTo_e w ha hd e0]
        have := sN_rng w ha hd hda
        exact nlt_nI (by omega)
  · exact outc_bind (turnRound_n hR hc h4) (outc_err e101)
theorem chg_leave (hO : OK R M n t) (hH : HI HS HN) (hfu : 12 < fu) (h4 : c < 4) : OUTC R HR HS HN M n t (Option.bind (fX3_leave fu R HR HS HN (nI c) true) fun v128 => some (v128.1, v128.2.1, R2, v128.2.2.1, v128.2.2.2.1, v128.2.2.2.2)) := by
  obtain ⟨hR, hG, hN, h3, h0⟩ := hO
  by_cases hc : c < n
  · by_cases hb : lft M c = true ∨ bad M n c = false
    · obtain ⟨R', HR', HS', HN', k1, k2, k3⟩ := leave_x (HR := HR) hR hH hc hfu hb
      obtain ⟨g1, g2⟩ := mv_leave hG hN hc hb
      exact outc_bind k1 (outc_ok (t' := t) (vif _) k2 ⟨k3, g1, g2, by rw [lvM_lo (by decide)]; exact h3, by rw [lvM_lo (by decide)]; exact h0⟩ (by omega))
    · have hl : ¬ lft M c = true := fun q => hb (Or.inl q)
      have hbd : bad M n c = true := by
        cases q : bad M n c with
        | true => rfl
        | false => exact absurd (Or.inr q) hb
      exact outc_bind (leave_b hR hc hfu hl hbd) (outc_err e103)
  · exact outc_bind (leave_n hR hc h4 _) (outc_err e101)
theorem chg_back (hO : OK R M n t) (hH : HI HS HN) (h4 : c < 4) : OUTC R HR HS HN M n t (Option.bind (fX3_leave fu R HR HS HN (nI c) false) fun v126 => some (v126.1, v126.2.1, R2, v126.2.2.1, v126.2.2.2.1, v126.2.2.2.2)) := by
  obtain ⟨hR, hG, hN, h3, h0⟩ := hO
  by_cases hc : c < n
  · obtain ⟨R', HR', HS', HN', k1, k2, k3⟩ := leave_f (fu := fu) (HR := HR) hR hH hc
    obtain ⟨g1, g2⟩ := mv_back (c := c) hG hN
    exact outc_bind k1 (outc_ok (t' := t) (vif _) k2 ⟨k3, g1, g2, by rw [setF_lo (by decide)]; exact h3, by rw [setF_lo (by decide)]; exact h0⟩ (by omega))
  · exact outc_bind (leave_n hR hc h4 _) (outc_err e101)
theorem chg_wind (hO : OK R M n t) (hH : HI HS HN) (x : Int32) : OUTC R HR HS HN M n t (Option.bind (fL_low (jshr x (6 : Int32)) (36 : Int32)) fun v131 => Option.bind (fX3_setWind R HR HS HN v131) fun v133 => some (v133.1, v133.2.1, R2, v133.2.2.1, v133.2.2.2.1, v133.2.2.2.2)) := by
  obtain ⟨hR, hG, hN, h3, h0⟩ := hO
  obtain ⟨w, hw, e1⟩ := low_e (jshr x (6 : Int32)) (m := 36) (by decide) (by decide)
  obtain ⟨R', HR', HS', HN', k1, k2, k3⟩ := setWind_x (HR := HR) hR hH hw
  obtain ⟨g1, g2⟩ := mv_wind hG hN hw
  obtain ⟨w0, hw0, e0⟩ := hG.1
  exact outc_bind e1 (outc_bind k1 (outc_ok (t' := t) (by rw [e0]; exact nlt_nI (by omega)) k2 ⟨k3, g1, g2, by rw [upd_ne (by decide)]; exact h3, by rw [upd_ne (by decide)]; exact h0⟩ (by omega)))
theorem it_OK (hO : OK R M n t) {R' : Nat → Int32} (w : Nat) (hR' : Rel R' (itM M n w) n) : OK R' (itM M n w) n (t + w) := by
  obtain ⟨hR, hG, hN, h3, h0⟩ := hO
  exact ⟨hR', GD_it hG w, NC_it hR.1 hG hN w, by rw [itM_lo (by decide) (by decide)]; exact h3, by rw [itM_0, h0, nI_add]⟩
theorem chg_tick (hO : OK R M n t) (hH : HI HS HN) (hfu : 200 < fu) (ht : t ≤ 1000) (x : Int32) : OUTC R HR HS HN M n t (Option.bind (fL_low (jshr x (6 : Int32)) (12 : Int32)) fun v136 => Option.bind (fX3_tick fu R HR HS HN ((1 : Int32) + v136)) fun v138 => some (v138.1, v138.2.1, R2, v138.2.2.1, v138.2.2.2.1, v138.2.2.2.2)) := by
  have hO' := hO
  obtain ⟨hR, hG, hN, h3, h0⟩ := hO
  obtain ⟨w, hw, e1⟩ := low_e (jshr x (6 : Int32)) (m := 12) (by decide) (by decide)
  have e2 : (1 : Int32) + nI w = nI (1 + w) := nI_add 1 w
  obtain ⟨R', HR', HS', HN', k1, k2, k3⟩ := tick_x (fu := fu) (HR := HR) hR (GD_wf hG) hH hfu (w := 1 + w) (by omega) (by omega) h0 (by omega)
  refine outc_bind e1 ?_
  rw [e2]
  exact outc_bind k1 (outc_ok (t' := t + (1 + w)) (nlt_nI (by omega)) k2 (it_OK hO' (1 + w) k3) (by omega))
theorem way3 : ∀ k, k < 3 → (¬ nI k - 1 < (-1 : Int32)) ∧ nI k - 1 ≤ (1 : Int32) ∧ (nI k - 1 = (0 : Int32) ∨ nI k - 1 = (1 : Int32) ∨ nI k - 1 = (-1 : Int32)) := by decide +kernel
theorem chg_slew1 (hO : OK R M n t) (hH : HI HS HN) (h4 : c < 4) {d : Nat} (hd : d < 36) {w : Int32} (hw1 : ¬ w < -1) (hw2 : w ≤ 1) (hw : w = 0 ∨ w = 1 ∨ w = -1) : OUTC R HR HS HN M n t (Option.bind (fX3_slew R HR HS HN (nI c) (nI d) w) fun v151 => some (v151.1, v151.2.1, R2, v151.2.2.1, v151.2.2.2.1, v151.2.2.2.2)) := by
  obtain ⟨hR, hG, hN, h3, h0⟩ := hO
  by_cases hc : c < n
  · by_cases hb : (ons M c || lft M c) = true
    · exact outc_bind (slew_b hR hc hd hw1 hw2 hb) (outc_err e103)
    · have hb : (ons M c || lft M c) = false := by simpa using hb
      have hb2 := Bool.or_eq_false_iff.mp hb
      obtain ⟨R', HR', HS', HN', k1, k2, k3⟩ := slew_x (HR := HR) hR (GD_wf hG) hH hc hd hw1 hw2 hw hb
      obtain ⟨g1, g2, g3⟩ := mv_aim hG hN hc hb2.1 hb2.2 hd hw
      exact outc_bind k1 (outc_ok (t' := t) g3 k2 ⟨k3, g1, g2, by rw [aimM_lo (by decide)]; exact h3, by rw [aimM_lo (by decide)]; exact h0⟩ (by omega))
  · exact outc_bind (slew_n hR hc h4 _ _) (outc_err e101)
theorem chg_slew (hO : OK R M n t) (hH : HI HS HN) (h4 : c < 4) (x : Int32) : OUTC R HR HS HN M n t (Option.bind (fL_low (jshr x (6 : Int32)) (36 : Int32)) fun v146 => if ((jshr x (12 : Int32)) &&& (3 : Int32)) = (3 : Int32) then (Option.bind (fX3_slew R HR HS HN (nI c) v146 (0 : Int32)) fun v151 => some (v151.1, v151.2.1, R2, v151.2.2.1, v151.2.2.2.1, v151.2.2.2.2)) else (Option.bind (fX3_slew R HR HS HN (nI c) v146 (((jshr x (12 : Int32)) &&& (3 : Int32)) - (1 : Int32))) fun v149 => some (v149.1, v149.2.1, R2, v149.2.2.1, v149.2.2.2.1, v149.2.2.2.2))) := by
  obtain ⟨d, hd, e1⟩ := low_e (jshr x (6 : Int32)) (m := 36) (by decide) (by decide)
  obtain ⟨k, hk, e2⟩ := pk_andE (jshr x (12 : Int32)) (m := 3) 2 (by decide)
  refine outc_bind e1 ?_
  rw [e2]
  by_cases q : nI k = (3 : Int32)
  · rw [if_pos q]
    exact chg_slew1 hO hH h4 hd (by decide) (by decide) (Or.inl rfl)
  · rw [if_neg q]
    have hk3 : k < 3 := by
      have : ¬ k = 3 := fun z => q (by rw [z]; rfl)
      omega
    obtain ⟨w1, w2, w3⟩ := way3 k hk3
    exact chg_slew1 hO hH h4 hd w1 w2 w3
theorem changes_x (hO : OK R M n t) (hH : HI HS HN) (hfu : 200 < fu) (ht : t ≤ 1000) (x : Int32) : OUTC R HR HS HN M n t (fL_changes fu R R2 HR HS HN x) := by
  obtain ⟨c, h4, e1⟩ := low_e (jshr x (4 : Int32)) (m := 4) (by decide) (by decide)
  obtain ⟨j, hj, e2⟩ := low_e x (m := 16) (by decide) (by decide)
  unfold fL_changes
  refine outc_bind e1 (outc_bind e2 ?_)
  rcases (show j = 0 ∨ j = 1 ∨ j = 2 ∨ j = 3 ∨ j = 4 ∨ j = 5 ∨ j = 6 ∨ j = 7 ∨ j = 8 ∨ j = 9 ∨ j = 10 ∨ 11 ≤ j by omega) with rfl | rfl | rfl | rfl | rfl | rfl | rfl | rfl | rfl | rfl | rfl | hge
  · rw [if_pos (show nI 0 = (0 : Int32) from rfl)]
    exact chg_prio hO hH h4 x
  · rw [if_neg (show ¬ nI 1 = (0 : Int32) by decide), if_pos (show nI 1 = (1 : Int32) from rfl)]
    exact chg_arc hO hH (by omega) h4 x
  · rw [if_neg (show ¬ nI 2 = (0 : Int32) by decide), if_neg (show ¬ nI 2 = (1 : Int32) by decide), if_pos (show nI 2 = (2 : Int32) from rfl)]
    exact chg_arc hO hH (by omega) h4 x
  · rw [if_neg (show ¬ nI 3 = (0 : Int32) by decide), if_neg (show ¬ nI 3 = (1 : Int32) by decide), if_neg (show ¬ nI 3 = (2 : Int32) by decide), if_pos (show nI 3 = (3 : Int32) from rfl)]
    exact chg_arc hO hH (by omega) h4 x
  · rw [if_neg (show ¬ nI 4 = (0 : Int32) by decide), if_neg (show ¬ nI 4 = (1 : Int32) by decide), if_neg (show ¬ nI 4 = (2 : Int32) by decide), if_neg (show ¬ nI 4 = (3 : Int32) by decide), if_pos (show nI 4 = (4 : Int32) from rfl)]
    exact chg_rm hO hH h4 x
  · rw [if_neg (show ¬ nI 5 = (0 : Int32) by decide), if_neg (show ¬ nI 5 = (1 : Int32) by decide), if_neg (show ¬ nI 5 = (2 : Int32) by decide), if_neg (show ¬ nI 5 = (3 : Int32) by decide), if_neg (show ¬ nI 5 = (4 : Int32) by decide), if_pos (show nI 5 = (5 : Int32) from rfl)]
    exact chg_stop hO hH h4
  · rw [if_neg (show ¬ nI 6 = (0 : Int32) by decide), if_neg (show ¬ nI 6 = (1 : Int32) by decide), if_neg (show ¬ nI 6 = (2 : Int32) by decide), if_neg (show ¬ nI 6 = (3 : Int32) by decide), if_neg (show ¬ nI 6 = (4 : Int32) by decide), if_neg (show ¬ nI 6 = (5 : Int32) by decide), if_pos (show nI 6 = (6 : Int32) from rfl)]
    exact chg_round hO hH h4
  · rw [if_neg (show ¬ nI 7 = (0 : Int32) by decide), if_neg (show ¬ nI 7 = (1 : Int32) by decide), if_neg (show ¬ nI 7 = (2 : Int32) by decide), if_neg (show ¬ nI 7 = (3 : Int32) by decide), if_neg (show ¬ nI 7 = (4 : Int32) by decide), if_neg (show ¬ nI 7 = (5 : Int32) by decide), if_neg (show ¬ nI 7 = (6 : Int32) by decide), if_pos (show nI 7 = (7 : Int32) from rfl)]
    split
    · exact chg_leave hO hH (by omega) h4
    · exact chg_back hO hH h4
  · rw [if_neg (show ¬ nI 8 = (0 : Int32) by decide), if_neg (show ¬ nI 8 = (1 : Int32) by decide), if_neg (show ¬ nI 8 = (2 : Int32) by decide), if_neg (show ¬ nI 8 = (3 : Int32) by decide), if_neg (show ¬ nI 8 = (4 : Int32) by decide), if_neg (show ¬ nI 8 = (5 : Int32) by decide), if_neg (show ¬ nI 8 = (6 : Int32) by decide), if_neg (show ¬ nI 8 = (7 : Int32) by decide), if_pos (show nI 8 = (8 : Int32) from rfl)]
    exact chg_wind hO hH x
  · rw [if_neg (show ¬ nI 9 = (0 : Int32) by decide), if_neg (show ¬ nI 9 = (1 : Int32) by decide), if_neg (show ¬ nI 9 = (2 : Int32) by decide), if_neg (show ¬ nI 9 = (3 : Int32) by decide), if_neg (show ¬ nI 9 = (4 : Int32) by decide), if_neg (show ¬ nI 9 = (5 : Int32) by decide), if_neg (show ¬ nI 9 = (6 : Int32) by decide), if_neg (show ¬ nI 9 = (7 : Int32) by decide), if_neg (show ¬ nI 9 = (8 : Int32) by decide), if_pos (show nI 9 = (9 : Int32) from rfl)]
    exact chg_tick hO hH hfu ht x
  · rw [if_neg (show ¬ nI 10 = (0 : Int32) by decide), if_neg (show ¬ nI 10 = (1 : Int32) by decide), if_neg (show ¬ nI 10 = (2 : Int32) by decide), if_neg (show ¬ nI 10 = (3 : Int32) by decide), if_neg (show ¬ nI 10 = (4 : Int32) by decide), if_neg (show ¬ nI 10 = (5 : Int32) by decide), if_neg (show ¬ nI 10 = (6 : Int32) by decide), if_neg (show ¬ nI 10 = (7 : Int32) by decide), if_neg (show ¬ nI 10 = (8 : Int32) by decide), if_neg (show ¬ nI 10 = (9 : Int32) by decide), if_pos (show nI 10 = (10 : Int32) from rfl)]
    exact chg_tick hO hH hfu ht x
  · rw [if_neg (show ¬ nI j = (0 : Int32) from q_ne (b := 0) (by omega) (by omega) (by decide)), if_neg (show ¬ nI j = (1 : Int32) from q_ne (b := 1) (by omega) (by omega) (by decide)), if_neg (show ¬ nI j = (2 : Int32) from q_ne (b := 2) (by omega) (by omega) (by decide)), if_neg (show ¬ nI j = (3 : Int32) from q_ne (b := 3) (by omega) (by omega) (by decide)), if_neg (show ¬ nI j = (4 : Int32) from q_ne (b := 4) (by omega) (by omega) (by decide)), if_neg (show ¬ nI j = (5 : Int32) from q_ne (b := 5) (by omega) (by omega) (by decide)), if_neg (show ¬ nI j = (6 : Int32) from q_ne (b := 6) (by omega) (by omega) (by decide)), if_neg (show ¬ nI j = (7 : Int32) from q_ne (b := 7) (by omega) (by omega) (by decide)), if_neg (show ¬ nI j = (8 : Int32) from q_ne (b := 8) (by omega) (by omega) (by decide)), if_neg (show ¬ nI j = (9 : Int32) from q_ne (b := 9) (by omega) (by omega) (by decide)), if_neg (show ¬ nI j = (10 : Int32) from q_ne (b := 10) (by omega) (by omega) (by decide)), if_pos (show nI j < (0 : Int32) ∨ (10 : Int32) < nI j from Or.inr (q_lt (a := 10) (by omega) (by omega)))]
    exact chg_slew hO hH h4 x
end CHG
