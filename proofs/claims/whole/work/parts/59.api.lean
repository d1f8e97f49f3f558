/-! the calls that are recorded: both sides answer alike and keep what holds -/
def INV (R HR : Nat → Int32) (HS HN : Int32) (M : Nat → Int32) (SV : Int32) : Prop := ∃ n p sv, Rel R M n ∧ WF M n ∧ Hist HR p sv M ∧ HS = nI sv ∧ HN = nI p ∧ SV = nI sv
def OutP (o3 : Option (Int32 × (Nat → Int32) × (Nat → Int32) × Int32 × Int32)) (o4 : Option (Int32 × (Nat → Int32) × Int32)) : Prop := ∃ v R' HR' HS' HN' M' SV', o3 = some (v, R', HR', HS', HN') ∧ o4 = some (v, M', SV') ∧ INV R' HR' HS' HN' M' SV'
theorem OutP_err {R HR : Nat → Int32} {HS HN : Int32} {M : Nat → Int32} {SV : Int32} (h : INV R HR HS HN M SV) (v : Int32) : OutP (some (v, R, HR, HS, HN)) (some (v, M, SV)) := ⟨v, R, HR, HS, HN, M, SV, rfl, rfl, h⟩
theorem OutP_rec {R' HR' M1 M2 : Nat → Int32} {n' p' sv' : Nat} (v : Int32) (hH : Hist HR' p' sv' M1) (hag : ∀ j, 128 ≤ j → M2 j = M1 j) (hR : Rel R' M2 n') (hW : WF M2 n') : OutP (some (v, R', HR', nI sv', nI p')) (some (v, M2, nI sv')) := ⟨v, R', HR', _, _, M2, _, rfl, rfl, n', p', sv', hR, hW, hH.agree (fun j h _ => hag j h), rfl, rfl, rfl⟩
theorem WF.at {M M' : Nat → Int32} {n c : Nat} (h : WF M n) (h1 : M' 1 = M 1) (h3 : M' 3 = M 3) (ho : ∀ c', c' ≠ c → ∀ k, k < 21 → F M' c' k = F M c' k) (hc : c < n → WFC M' c) : WF M' n := by
  refine h.lo h1 h3 (fun c' hc' => ?_)
  by_cases e : c' = c
  · subst e; exact hc hc'
  · exact (h.2.2 c' hc').congr (ho c' e 0 (by decide)) (ho c' e 3 (by decide)) (ho c' e 4 (by decide)) (ho c' e 7 (by decide))
theorem WF.setO {M : Nat → Int32} {n c k : Nat} {v : Int32} (h : WF M n) (hk : k < 21) (h0 : k ≠ 0) (h3 : k ≠ 3) (h4 : k ≠ 4) (h7 : k ≠ 7) : WF (setF M c k v) n := by
  refine h.at (c := c) (setF_lo (by decide)) (setF_lo (by decide)) (fun c' e k' hk' => F_nc e hk hk') (fun hc => ?_)
  exact (h.2.2 c hc).congr (F_nk (Ne.symm h0)) (F_nk (Ne.symm h3)) (F_nk (Ne.symm h4)) (F_nk (Ne.symm h7))
theorem WF.noT {M : Nat → Int32} {n c : Nat} (h : WF M n) (hc : c < n) : WF (noT M c) n := by
  refine h.at (c := c) ?_ ?_ (fun c' e k' hk' => ?_) (fun _ => (h.2.2 c hc).none)
  · show setF (setF M c 3 (-100)) c 4 0 1 = M 1
    rw [setF_lo (by decide), setF_lo (by decide)]
  · show setF (setF M c 3 (-100)) c 4 0 3 = M 3
    rw [setF_lo (by decide), setF_lo (by decide)]
  · show F (setF (setF M c 3 (-100)) c 4 0) c' k' = F M c' k'
    rw [F_nc e (by decide) hk', F_nc e (by decide) hk']
theorem noT_hi {M : Nat → Int32} {c i : Nat} (hc : c < 4) (h : 88 ≤ i) : noT M c i = M i := by
  unfold noT
  rw [setF_hi hc (by decide) h, setF_hi hc (by decide) h]
theorem if_in {α : Type} {x a b : Int32} {A E : α} : (if x < a then E else if b < x then E else A) = (if decide (a.toInt ≤ x.toInt ∧ x.toInt ≤ b.toInt) = true then A else E) := by
  by_cases h1 : x < a
  · have := Int32.lt_iff_toInt_lt.mp h1
    rw [if_pos h1, if_neg (by rw [decide_eq_true_eq]; omega)]
  · have h1' : ¬ x.toInt < a.toInt := fun h => h1 (Int32.lt_iff_toInt_lt.mpr h)
    rw [if_neg h1]
    by_cases h2 : b < x
    · have := Int32.lt_iff_toInt_lt.mp h2
      rw [if_pos h2, if_neg (by rw [decide_eq_true_eq]; omega)]
    · have h2' : ¬ b.toInt < x.toInt := fun h => h2 (Int32.lt_iff_toInt_lt.mpr h)
      rw [if_neg h2, if_pos (by rw [decide_eq_true_eq]; omega)]
theorem if_in2 {α : Type} {x a b : Int32} {A E : α} : (if x < a then E else if x ≤ b then A else E) = (if decide (a.toInt ≤ x.toInt ∧ x.toInt ≤ b.toInt) = true then A else E) := by
  rw [← if_in]
  by_cases h1 : x < a
  · rw [if_pos h1, if_pos h1]
  · rw [if_neg h1, if_neg h1]
    by_cases h2 : b < x
    · have : ¬ x ≤ b := fun h => by
        have q1 := Int32.lt_iff_toInt_lt.mp h2
        have q2 := Int32.le_iff_toInt_le.mp h
        omega
      rw [if_pos h2, if_neg this]
    · have : x ≤ b := Int32.le_iff_toInt_le.mpr (by
        have q1 : ¬ b.toInt < x.toInt := fun h => h2 (Int32.lt_iff_toInt_lt.mpr h)
        omega)
      rw [if_neg h2, if_pos this]
theorem if_in3 {α : Type} {x a b : Int32} {A E : α} : (if x < a then E else if x < b then A else E) = (if decide (a.toInt ≤ x.toInt ∧ x.toInt < b.toInt) = true then A else E) := by
  by_cases h1 : x < a
  · have := Int32.lt_iff_toInt_lt.mp h1
    rw [if_pos h1, if_neg (by rw [decide_eq_true_eq]; omega)]
  · have h1' : ¬ x.toInt < a.toInt := fun h => h1 (Int32.lt_iff_toInt_lt.mpr h)
    rw [if_neg h1]
    by_cases h2 : x < b
    · have := Int32.lt_iff_toInt_lt.mp h2
      rw [if_pos h2, if_pos (by rw [decide_eq_true_eq]; omega)]
    · have h2' : ¬ x.toInt < b.toInt := fun h => h2 (Int32.lt_iff_toInt_lt.mpr h)
      rw [if_neg h2, if_neg (by rw [decide_eq_true_eq]; omega)]
theorem if_in4 {α : Type} {x a b : Int32} {A E : α} : (if x < a then E else if b ≤ x then E else A) = (if decide (a.toInt ≤ x.toInt ∧ x.toInt < b.toInt) = true then A else E) := by
  rw [← if_in3]
  by_cases h1 : x < a
  · rw [if_pos h1, if_pos h1]
  · rw [if_neg h1, if_neg h1]
    by_cases h2 : b ≤ x
    · have : ¬ x < b := fun h => by
        have q1 := Int32.lt_iff_toInt_lt.mp h
        have q2 := Int32.le_iff_toInt_le.mp h2
        omega
      rw [if_pos h2, if_neg this]
    · have : x < b := Int32.lt_iff_toInt_lt.mpr (by
        have q1 : ¬ b.toInt ≤ x.toInt := fun h => h2 (Int32.le_iff_toInt_le.mpr h)
        omega)
      rw [if_neg h2, if_pos this]
theorem if_some {b : Bool} : (if b = true then some true else some false) = some b := by cases b <;> rfl
theorem cIsAngle_e (x : Int32) : fX3_isAngle x = some (decide (0 ≤ x.toInt ∧ x.toInt < 36)) := by
  unfold fX3_isAngle
  rw [if_in4]
  exact if_some
theorem cIsZone_e (x : Int32) : fX3_isZone x = some (decide (0 ≤ x.toInt ∧ x.toInt < 6)) := by
  unfold fX3_isZone
  rw [if_in4]
  exact if_some
theorem cIsPrio_e (x : Int32) : fX3_isPriority x = some (decide (0 ≤ x.toInt ∧ x.toInt ≤ 9)) := by
  unfold fX3_isPriority
  rw [if_in]
  exact if_some
theorem mIsAngle_e (x : Int32) : fX4_isAngle x = some (decide (0 ≤ x.toInt ∧ x.toInt < 36)) := by
  unfold fX4_isAngle
  rw [in_e]
  show some (decide (0 ≤ x.toInt ∧ x.toInt ≤ 35)) = _
  congr 1
  apply decide_eq_decide.mpr
  omega
theorem mIsZone_e (x : Int32) : fX4_isZone x = some (decide (0 ≤ x.toInt ∧ x.toInt < 6)) := by
  unfold fX4_isZone
  rw [in_e]
  show some (decide (0 ≤ x.toInt ∧ x.toInt ≤ 5)) = _
  congr 1
  apply decide_eq_decide.mpr
  omega
theorem cHasCrane_e {X M : Nat → Int32} {n : Nat} (hR : Rel X M n) (x : Int32) : fX1_hasCrane X x = some (decide (0 ≤ x.toInt ∧ x.toInt < n)) := by
  unfold fX1_hasCrane
  simp only [rdk2, hR.2.1, Option.bind_some]
  rw [if_in4, nI_toInt (by have := hR.1; omega)]
  exact if_some
theorem mIsCrane_e {M : Nat → Int32} {n : Nat} (hn : n ≤ 4) (h2 : M 2 = nI n) (x : Int32) : fX4_isCrane M x = some (decide (0 ≤ x.toInt ∧ x.toInt < n)) := by
  unfold fX4_isCrane
  simp only [rdm2, h2, in_e, Option.bind_some]
  have e : (nI n - (1 : Int32)).toInt = (n : Int) - 1 := by
    have : n = 0 ∨ n = 1 ∨ n = 2 ∨ n = 3 ∨ n = 4 := by omega
    rcases this with rfl | rfl | rfl | rfl | rfl <;> decide
  rw [e]
  congr 1
  apply decide_eq_decide.mpr
  show (0 ≤ x.toInt ∧ x.toInt ≤ (n : Int) - 1) ↔ _
  omega
section API
variable {R HR M : Nat → Int32} {HS HN SV : Int32} {fu : Nat}
theorem setPriority_pair (hfu : 128 < fu) (h : INV R HR HS HN M SV) (x1 x2 : Int32) : OutP (fX3_setPriority R HR HS HN x1 x2) (fX4_setPriority fu M SV x1 x2) := by
  obtain ⟨n, p, sv, hR, hW, hH, rfl, rfl, rfl⟩ := id h
  unfold fX3_setPriority fX4_setPriority
  simp only [cHasCrane_e hR, mIsCrane_e hR.1 hR.2.2.1, cIsPrio_e, in_e, Option.bind_some]
  by_cases hc : 0 ≤ x1.toInt ∧ x1.toInt < n
  · obtain ⟨c, hcn, rfl⟩ := of_toInt hc (by have := hR.1; omega)
    simp only [decide_eq_true hc, if_true]
    by_cases h9 : 0 ≤ x2.toInt ∧ x2.toInt ≤ 9
    · obtain ⟨HR', k1, k2, k3, k4, k5⟩ := keep_pair hfu hR hW hH
      have hc4 := hR.lt hcn
      have h9' : (0 : Int32).toInt ≤ x2.toInt ∧ x2.toInt ≤ (9 : Int32).toInt := h9
      simp only [decide_eq_true h9, decide_eq_true h9', if_true, k1, k2, fX1_changePriority, rd12 hc4, wr12 hc4, of2 hc4, sets2 hc4, k4.f hcn 2 (by decide), Option.bind_some]
      exact OutP_rec _ k3 (fun j hj => setF_hi hc4 (by decide) (by omega)) (k4.set (k := 2) x2 hcn (by decide)) (k5.setO (by decide) (by decide) (by decide) (by decide) (by decide))
    · have h9' : ¬ ((0 : Int32).toInt ≤ x2.toInt ∧ x2.toInt ≤ (9 : Int32).toInt) := h9
      simp only [decide_eq_false h9, decide_eq_false h9']
      exact OutP_err h _
  · simp only [decide_eq_false hc]
    exact OutP_err h _
theorem setWind_pair (hfu : 128 < fu) (h : INV R HR HS HN M SV) (x1 : Int32) : OutP (fX3_setWind R HR HS HN x1) (fX4_setWind fu M SV x1) := by
  obtain ⟨n, p, sv, hR, hW, hH, rfl, rfl, rfl⟩ := id h
  unfold fX3_setWind fX4_setWind
  simp only [cIsAngle_e, mIsAngle_e, Option.bind_some]
  by_cases hc : 0 ≤ x1.toInt ∧ x1.toInt < 36
  · obtain ⟨w, hw, rfl⟩ := of_toInt (n := 36) hc (by decide)
    obtain ⟨HR', k1, k2, k3, k4, k5⟩ := keep_pair hfu hR hW hH
    simp only [decide_eq_true hc, if_true, k1, k2, fX1_changeWind, rdk1, wrk1, rdm1, wrm1, k4.2.2.2.2.1, Option.bind_some]
    refine OutP_rec _ k3 (fun j hj => upd_ne (by omega)) (n' := n) ?_ ?_
    · obtain ⟨h1, h2, h3, h4, h5, h6, h7, h8, h9⟩ := k4
      refine ⟨h1, by rw [upd_ne (by decide)]; exact h2, by rw [upd_ne (by decide)]; exact h3, by rw [upd_ne (by decide), upd_ne (by decide)]; exact h4, by rw [upd_eq, upd_eq], by rw [upd_ne (by decide), upd_ne (by decide)]; exact h6, fun j hj => by rw [upd_ne (by omega), upd_ne (by omega)]; exact h7 j hj, fun c hc k hk => ?_, fun c hc hc4 k hk4 hk => ?_⟩
      · have := ix_lt c (by omega) k hk
        rw [upd_ne (by omega), F_low (by decide)]
        exact h8 c hc k hk
      · have := ix_lt c hc4 k hk
        rw [upd_ne (by omega)]
        exact h9 c hc hc4 k hk4 hk
    · exact ⟨⟨w, hw, upd_eq⟩, by rw [upd_ne (by decide)]; exact k5.2.1, fun c hc => (k5.2.2 c hc).congr (F_low (by decide)) (F_low (by decide)) (F_low (by decide)) (F_low (by decide))⟩
  · simp only [decide_eq_false hc]
    exact OutP_err h _
theorem upd3_Rel {n : Nat} (hR : Rel R M n) (v : Int32) : Rel (upd R 3 v) (upd M 3 v) n := by
  obtain ⟨h1, h2, h3, h4, h5, h6, h7, h8, h9⟩ := hR
  refine ⟨h1, by rw [upd_ne (by decide)]; exact h2, by rw [upd_ne (by decide)]; exact h3, by rw [upd_ne (by decide), upd_ne (by decide)]; exact h4, by rw [upd_ne (by decide), upd_ne (by decide)]; exact h5, by rw [upd_eq, upd_eq], fun j hj => by rw [upd_ne (by omega), upd_ne (by omega)]; exact h7 j hj, fun c hc k hk => ?_, fun c hc hc4 k hk4 hk => ?_⟩
  · have := ix_lt c (by omega) k hk
    rw [upd_ne (by omega), F_low (by decide)]
    exact h8 c hc k hk
  · have := ix_lt c hc4 k hk
    rw [upd_ne (by omega)]
    exact h9 c hc hc4 k hk4 hk
theorem upd3_WF {n q : Nat} (hW : WF M n) (hq : q ≤ 10) : WF (upd M 3 (nI q)) n := ⟨by rw [upd_ne (by decide)]; exact hW.1, ⟨q, hq, upd_eq⟩, fun c hc => (hW.2.2 c hc).congr (F_low (by decide)) (F_low (by decide)) (F_low (by decide)) (F_low (by decide))⟩
theorem clearNotes_pair (hfu : 128 < fu) (h : INV R HR HS HN M SV) : OutP (fX3_clearNotes R HR HS HN) (fX4_clearNotes fu M SV) := by
  obtain ⟨n, p, sv, hR, hW, hH, rfl, rfl, rfl⟩ := id h
  obtain ⟨HR', k1, k2, k3, k4, k5⟩ := keep_pair hfu hR hW hH
  unfold fX3_clearNotes fX4_clearNotes fX1_dropNotes
  simp only [k1, k2, rdk3, wrk3, rdm3, wrm3, k4.2.2.2.2.2.1, Option.bind_some]
  exact OutP_rec _ k3 (fun j hj => upd_ne (by omega)) (upd3_Rel k4 0) (upd3_WF (q := 0) k5 (by decide))
theorem stop_pair (hfu : 128 < fu) (h : INV R HR HS HN M SV) (x1 : Int32) : OutP (fX3_stop R HR HS HN x1) (fX4_stop fu M SV x1) := by
  obtain ⟨n, p, sv, hR, hW, hH, rfl, rfl, rfl⟩ := id h
  unfold fX3_stop fX4_stop
  simp only [cHasCrane_e hR, mIsCrane_e hR.1 hR.2.2.1, Option.bind_some]
  by_cases hc : 0 ≤ x1.toInt ∧ x1.toInt < n
  · obtain ⟨c, hcn, rfl⟩ := of_toInt hc (by have := hR.1; omega)
    have hc4 := hR.lt hcn
    simp only [decide_eq_true hc, if_true, cIsOnStep_e hR hcn, isOnStep_e hc4, Option.bind_some]
    by_cases h1 : ons M c = true
    · rw [if_pos h1, if_pos h1]
      exact OutP_err h _
    · obtain ⟨HR', k1, k2, k3, k4, k5⟩ := keep_pair hfu hR hW hH
      obtain ⟨X', d1, d2⟩ := cDrop_e k4 hcn
      simp only [if_neg h1, k1, k2, d1, of3 hc4, noTarget_e hc4, Option.bind_some]
      exact OutP_rec _ k3 (fun j hj => noT_hi hc4 (by omega)) d2 (k5.noT hcn)
  · simp only [decide_eq_false hc]
    exact OutP_err h _
end API
