/-! p35: the class's calls as plain functions of the state -/
theorem low_e (x : Int32) {m : Nat} (h0 : 0 < m) (hm : m < 2 ^ 31) : ∃ j, j < m ∧ fL_low x (nI m) = some (nI j) := by
  obtain ⟨q, hq, e⟩ := pk_andE x (m := 2147483647) 31 (by decide)
  refine ⟨q % m, Nat.mod_lt _ h0, ?_⟩
  have hne : ¬ nI m = (0 : Int32) := q_ne (b := 0) (by omega) hm (by decide)
  unfold fL_low jremO jrem
  rw [e, if_neg hne, pk_rem hq h0 hm]
  rfl
theorem jr36 {q : Nat} (hq : q < 2 ^ 31) : jrem (nI q) (36 : Int32) = nI (q % 36) := pk_rem (d := 36) hq (by decide) (by decide)
section CALLS
variable {R HR M T : Nat → Int32} {HS HN : Int32} {fu n c : Nat}
theorem hasC_y (hR : Rel R M n) (hc : c < n) : fX1_hasCrane R (nI c) = some true := by
  have hn4 := hR.1
  rw [cHasCrane_e hR, nI_toInt (by omega), decide_eq_true ⟨by omega, by omega⟩]
theorem hasC_n (hR : Rel R M n) (hc : ¬ c < n) (h4 : c < 4) : fX1_hasCrane R (nI c) = some false := by
  rw [cHasCrane_e hR, nI_toInt (by omega), decide_eq_false (by omega)]
theorem ang_y {a : Nat} (ha : a < 36) : fX3_isAngle (nI a) = some true := by
  rw [cIsAngle_e, nI_toInt (by omega), decide_eq_true ⟨by omega, by omega⟩]
theorem zon_y {z : Nat} (hz : z < 6) : fX3_isZone (nI z) = some true := by
  rw [cIsZone_e, nI_toInt (by omega), decide_eq_true ⟨by omega, by omega⟩]
theorem pri_y {p : Nat} (hp : p ≤ 9) : fX3_isPriority (nI p) = some true := by
  rw [cIsPrio_e, nI_toInt (by omega), decide_eq_true ⟨by omega, by omega⟩]
theorem addCrane_x (hR : Rel R M n) (hH : HI HS HN) (hn : n < 4) {a b p : Nat} (ha : a < 36) (hb : 1 ≤ b) (hb5 : b ≤ 5) (hp : p ≤ 9) : ∃ (R' HR' : Nat → Int32) (HS' HN' : Int32), fX3_addCrane R HR HS HN (nI a) (nI b) (nI p) = some (nI n, R', HR', HS', HN') ∧ HI HS' HN' ∧ Rel R' (newC M n (nI a) (nI b) (nI p)) (n + 1) := by
  obtain ⟨HR', HS', HN', k1, k2⟩ := keep_n (HR := HR) hR hH
  refine ⟨_, HR', HS', HN', ?_, k2.hi, put_Rel hR hn (nI a) (nI b) (nI p)⟩
  unfold fX3_addCrane fX1_craneCount
  rw [ang_y ha, Option.bind_some, if_pos rfl, if_neg (show ¬ nI b < (1 : Int32) from q_nlt (b := 1) hb (by omega)), if_neg (show ¬ (5 : Int32) < nI b from q_nlt (a := 5) hb5 (by decide)), pri_y hp, Option.bind_some, if_pos rfl, rdk2, hR.2.1, Option.bind_some, Option.bind_some, if_pos (show nI n < (4 : Int32) from q_lt (b := 4) hn (by decide)), k1, Option.bind_some]
  unfold fX1_putCrane
  simp only [rdk2, wrk2, hR.2.1, wr4 hn, wr8 hn, wr12 hn, wr16 hn, Option.bind_some, nI_1]
theorem setPriority_n (hR : Rel R M n) (hc : ¬ c < n) (h4 : c < 4) (x : Int32) : fX3_setPriority R HR HS HN (nI c) x = some ((-101 : Int32), R, HR, HS, HN) := by
  unfold fX3_setPriority
  rw [hasC_n hR hc h4]
  rfl
theorem setPriority_x (hR : Rel R M n) (hH : HI HS HN) (hc : c < n) {p : Nat} (hp : p ≤ 9) : ∃ (R' HR' : Nat → Int32) (HS' HN' : Int32), fX3_setPriority R HR HS HN (nI c) (nI p) = some (F M c 2, R', HR', HS', HN') ∧ KP HR' HS' HN' M n ∧ Rel R' (setF M c 2 (nI p)) n := by
  obtain ⟨HR', HS', HN', k1, k2⟩ := keep_n (HR := HR) hR hH
  have hc4 := hR.lt hc
  refine ⟨_, HR', HS', HN', ?_, k2, hR.set (k := 2) (nI p) hc (by decide)⟩
  unfold fX3_setPriority fX1_changePriority
  rw [hasC_y hR hc, Option.bind_some, if_pos rfl, pri_y hp, Option.bind_some, if_pos rfl, k1]
  simp only [rd12 hc4, wr12 hc4, hR.f hc 2 (by decide), Option.bind_some]
theorem setWind_x (hR : Rel R M n) (hH : HI HS HN) {w : Nat} (hw : w < 36) : ∃ (R' HR' : Nat → Int32) (HS' HN' : Int32), fX3_setWind R HR HS HN (nI w) = some (M 1, R', HR', HS', HN') ∧ KP HR' HS' HN' M n ∧ Rel R' (upd M 1 (nI w)) n := by
  obtain ⟨HR', HS', HN', k1, k2⟩ := keep_n (HR := HR) hR hH
  refine ⟨upd R 1 (nI w), HR', HS', HN', ?_, k2, ?_⟩
  · unfold fX3_setWind fX1_changeWind
    rw [ang_y hw, Option.bind_some, if_pos rfl, k1]
    simp only [rdk1, wrk1, hR.2.2.2.2.1, Option.bind_some]
  · obtain ⟨h1, h2, h3, h4, h5, h6, h7, h8, h9⟩ := hR
    refine ⟨h1, by rw [upd_ne (by decide)]; exact h2, by rw [upd_ne (by decide)]; exact h3, by rw [upd_ne (by decide), upd_ne (by decide)]; exact h4, by rw [upd_eq, upd_eq], by rw [upd_ne (by decide), upd_ne (by decide)]; exact h6, fun j hj => by rw [upd_ne (by omega), upd_ne (by omega)]; exact h7 j hj, fun c hc k hk => ?_, fun c hc hc4 k hk4 hk => ?_⟩
    · have := ix_lt c (by omega) k hk
      rw [upd_ne (by omega), F_low (by decide)]
      exact h8 c hc k hk
    · have := ix_lt c hc4 k hk
      rw [upd_ne (by omega)]
      exact h9 c hc hc4 k hk4 hk
theorem stop_n (hR : Rel R M n) (hc : ¬ c < n) (h4 : c < 4) : fX3_stop R HR HS HN (nI c) = some ((-101 : Int32), R, HR, HS, HN) := by
  unfold fX3_stop
  rw [hasC_n hR hc h4]
  rfl
theorem stop_b (hR : Rel R M n) (hc : c < n) (h : ons M c = true) : fX3_stop R HR HS HN (nI c) = some ((-103 : Int32), R, HR, HS, HN) := by
  unfold fX3_stop
  rw [hasC_y hR hc, Option.bind_some, if_pos rfl, cIsOnStep_e hR hc, Option.bind_some, if_pos h]
theorem stop_x (hR : Rel R M n) (hH : HI HS HN) (hc : c < n) (h : ¬ ons M c = true) : ∃ (R' HR' : Nat → Int32) (HS' HN' : Int32), fX3_stop R HR HS HN (nI c) = some (F M c 3, R', HR', HS', HN') ∧ KP HR' HS' HN' M n ∧ Rel R' (noT M c) n := by
  obtain ⟨HR', HS', HN', k1, k2⟩ := keep_n (HR := HR) hR hH
  obtain ⟨X', d1, d2⟩ := cDrop_e hR hc
  refine ⟨X', HR', HS', HN', ?_, k2, d2⟩
  unfold fX3_stop
  rw [hasC_y hR hc, Option.bind_some, if_pos rfl, cIsOnStep_e hR hc, Option.bind_some, if_neg h, k1]
  simp only [d1, Option.bind_some]
theorem slew_n (hR : Rel R M n) (hc : ¬ c < n) (h4 : c < 4) (x y : Int32) : fX3_slew R HR HS HN (nI c) x y = some ((-101 : Int32), R, HR, HS, HN) := by
  unfold fX3_slew
  rw [hasC_n hR hc h4]
  rfl
theorem slew_b (hR : Rel R M n) (hc : c < n) {t : Nat} (ht : t < 36) {w : Int32} (hw1 : ¬ w < -1) (hw2 : w ≤ 1) (h : (ons M c || lft M c) = true) : fX3_slew R HR HS HN (nI c) (nI t) w = some ((-103 : Int32), R, HR, HS, HN) := by
  unfold fX3_slew
  rw [hasC_y hR hc, Option.bind_some, if_pos rfl, ang_y ht, Option.bind_some, if_pos rfl, if_neg hw1, if_pos hw2, cCanAim_e hR hc, Option.bind_some, h]
  rfl
theorem slew_x (hR : Rel R M n) (hW : WF M n) (hH : HI HS HN) (hc : c < n) {t : Nat} (ht : t < 36) {w : Int32} (hw1 : ¬ w < -1) (hw2 : w ≤ 1) (hw : w = 0 ∨ w = 1 ∨ w = -1) (h : (ons M c || lft M c) = false) : ∃ (R' HR' : Nat → Int32) (HS' HN' : Int32), fX3_slew R HR HS HN (nI c) (nI t) w = some (stTo M c (nI t) (its M c (nI t) w), R', HR', HS', HN') ∧ KP HR' HS' HN' M n ∧ Rel R' (aimM M c (nI t) w) n := by
  obtain ⟨HR', HS', HN', k1, k2⟩ := keep_n (HR := HR) hR hH
  obtain ⟨X', d1, d2⟩ := cAim_e hR hW hc ht hw
  refine ⟨X', HR', HS', HN', ?_, k2, d2⟩
  unfold fX3_slew
  rw [hasC_y hR hc, Option.bind_some, if_pos rfl, ang_y ht, Option.bind_some, if_pos rfl, if_neg hw1, if_pos hw2, cCanAim_e hR hc, Option.bind_some, h]
  simp only [Bool.not_false, if_true, k1, d1, Option.bind_some]
theorem turnRound_n (hR : Rel R M n) (hc : ¬ c < n) (h4 : c < 4) : fX3_turnRound R HR HS HN (nI c) = some ((-101 : Int32), R, HR, HS, HN) := by
  unfold fX3_turnRound
  rw [hasC_n hR hc h4]
  rfl
theorem turnRound_b (hR : Rel R M n) (hc : c < n) (h : ¬ hasT M c = true ∨ ons M c = true) : fX3_turnRound R HR HS HN (nI c) = some ((-103 : Int32), R, HR, HS, HN) := by
  unfold fX3_turnRound
  rw [hasC_y hR hc, Option.bind_some, if_pos rfl, cHasTarget_e hR hc, Option.bind_some]
  by_cases h2 : hasT M c = true
  · rw [if_pos h2, cIsOnStep_e hR hc, Option.bind_some, if_pos (h.elim (fun q => absurd h2 q) id)]
  · rw [if_neg h2]
theorem turnRound_x (hR : Rel R M n) (hH : HI HS HN) (hc : c < n) (ha : ∃ a, a < 36 ∧ F M c 0 = nI a) (ht : ∃ t, t < 36 ∧ F M c 3 = nI t) (hw : F M c 4 = 1 ∨ F M c 4 = -1) (h2 : hasT M c = true) (h1 : ¬ ons M c = true) : ∃ (R' HR' : Nat → Int32) (HS' HN' : Int32), fX3_turnRound R HR HS HN (nI c) = some (stTo M c (F M c 3) (-(F M c 4)), R', HR', HS', HN') ∧ KP HR' HS' HN' M n ∧ Rel R' (setF M c 4 (-(F M c 4))) n := by
  obtain ⟨HR', HS', HN', k1, k2⟩ := keep_n (HR := HR) hR hH
  have hc4 := hR.lt hc
  have hr := hR.set (k := 4) (-(F M c 4)) hc (by decide)
  have hneg : -(F M c 4) = 1 ∨ -(F M c 4) = -1 := by
    rcases hw with q | q <;> rw [q]
    · exact Or.inr rfl
    · exact Or.inl (by decide)
  have e0 : F (setF M c 4 (-(F M c 4))) c 0 = F M c 0 := F_nk (by decide)
  have e3 : F (setF M c 4 (-(F M c 4))) c 3 = F M c 3 := F_nk (by decide)
  have e4 : F (setF M c 4 (-(F M c 4))) c 4 = -(F M c 4) := F_same
  have hst := cStepsTo_e hr hc (by rw [e0]; exact ha) (by rw [e3]; exact ht) (by rw [e4]; exact hneg)
  have hst2 : stTo (setF M c 4 (-(F M c 4))) c (F (setF M c 4 (-(F M c 4))) c 3) (F (setF M c 4 (-(F M c 4))) c 4) = stTo M c (F M c 3) (-(F M c 4)) := by
    unfold stTo
    rw [e0, e3, e4]
  rw [hst2] at hst
  refine ⟨_, HR', HS', HN', ?_, k2, hr⟩
  unfold fX3_turnRound fX1_changeWay
  rw [hasC_y hR hc, Option.bind_some, if_pos rfl, cHasTarget_e hR hc, Option.bind_some, if_pos h2, cIsOnStep_e hR hc, Option.bind_some, if_neg h1, k1]
  simp only [rd20 hc4, wr20 hc4, hR.f hc 4 (by decide), hst, Option.bind_some]
theorem removeArc_n (hR : Rel R M n) (hc : ¬ c < n) (h4 : c < 4) (x : Int32) : fX3_removeArc R HR HS HN (nI c) x = some ((-101 : Int32), R, HR, HS, HN) := by
  unfold fX3_removeArc
  rw [hasC_n hR hc h4]
  rfl
def rmA (M : Nat → Int32) (c z : Nat) : Nat → Int32 := setF (setF M c (9 + 2 * z) (-100)) c (9 + 2 * z + 1) (-100)
theorem removeArc_x (hR : Rel R M n) (hH : HI HS HN) (hc : c < n) {z : Nat} (hz : z < 6) : ∃ (v : Int32) (R' HR' : Nat → Int32) (HS' HN' : Int32), fX3_removeArc R HR HS HN (nI c) (nI z) = some (v, R', HR', HS', HN') ∧ (v = 0 ∨ v = 1) ∧ KP HR' HS' HN' M n ∧ Rel R' (rmA M c z) n := by
  obtain ⟨HR', HS', HN', k1, k2⟩ := keep_n (HR := HR) hR hH
  have hc4 := hR.lt hc
  have hr := (hR.set (k := 9 + 2 * z) (-100) hc (by omega)).set (k := 9 + 2 * z + 1) (-100) hc (by omega)
  have hca : fX1_hasArc R (nI c) (nI z) = some (hasA M c z) := by
    unfold fX1_hasArc fX1_firstOf hasA
    simp only [rd44 hc4 hz, hR.f hc (9 + 2 * z) (by omega), Option.bind_some]
    split <;> rfl
  refine ⟨if hasA M c z = true then 1 else 0, _, HR', HS', HN', ?_, ?_, k2, hr⟩
  · unfold fX3_removeArc
    rw [hasC_y hR hc, Option.bind_some, if_pos rfl, zon_y hz, Option.bind_some, if_pos rfl, k1]
    simp only [hca, fX1_setLimits, wr44 hc4 hz, wr68 hc4 hz, Option.bind_some]
    split <;> rfl
  · split
    · exact Or.inr rfl
    · exact Or.inl rfl
end CALLS
