/-! leave, override -/
theorem notset16 : ∀ k, k < 16 → ∀ c, c < 4 → ((nI k &&& ((jshl (1 : Int32) (nI c)) ^^^ (-1 : Int32))) = 0 ↔ ∀ i, i < 4 → i ≠ c → k.testBit i = false) := by decide +kernel
theorem msk_not {p : Nat → Bool} {n c : Nat} (hn : n ≤ 4) (hc : c < 4) : (msk p n &&& ((jshl (1 : Int32) (nI c)) ^^^ (-1 : Int32))) = 0 ↔ ∀ o, o < n → o ≠ c → ¬ p o = true := by
  have hlt : mskN p n < 16 := Nat.lt_of_lt_of_le (mskN_lt p n) (Nat.pow_le_pow_right (n := 2) (by decide) hn)
  refine (notset16 (mskN p n) hlt c hc).trans ?_
  constructor
  · intro h o ho hne hp
    have := h o (by omega) hne
    rw [mskN_bit] at this
    simp [ho, hp] at this
  · intro h i hi hne
    rw [mskN_bit]
    by_cases q : i < n
    · have := h i q hne
      simp [q, this]
    · simp [q]
/-- another crane is in a zone where this one has an arc -/
def lvB (M : Nat → Int32) (c o : Nat) : Bool := decide (o ≠ c) && anyN (fun z => occ M o z && hasA M c z) 6
def lvZ (M : Nat → Int32) (n c z : Nat) : Bool := hasA M c z && anyN (fun o => decide (o ≠ c) && occ M o z) n
def bad (M : Nat → Int32) (n c : Nat) : Bool := ons M c || anyN (lvZ M n c) 6
theorem bad_swap {M : Nat → Int32} {n c : Nat} : anyN (lvZ M n c) 6 = anyN (lvB M c) n := by
  rw [Bool.eq_iff_iff, anyN_iff, anyN_iff]
  constructor
  · rintro ⟨z, hz, h⟩
    simp only [lvZ, Bool.and_eq_true, anyN_iff, decide_eq_true_eq] at h
    obtain ⟨h1, o, ho, h2, h3⟩ := h
    refine ⟨o, ho, ?_⟩
    simp only [lvB, Bool.and_eq_true, anyN_iff, decide_eq_true_eq]
    exact ⟨h2, z, hz, h3, h1⟩
  · rintro ⟨o, ho, h⟩
    simp only [lvB, Bool.and_eq_true, anyN_iff, decide_eq_true_eq] at h
    obtain ⟨h1, z, hz, h2, h3⟩ := h
    refine ⟨z, hz, ?_⟩
    simp only [lvZ, Bool.and_eq_true, anyN_iff, decide_eq_true_eq]
    exact ⟨h3, o, ho, h1, h2⟩
theorem anyN_false {p : Nat → Bool} {n : Nat} (h : ∀ i, i < n → ¬ p i = true) : anyN p n = false := by
  cases e : anyN p n with
  | false => rfl
  | true =>
    obtain ⟨i, hi, hp⟩ := (anyN_iff p n).mp e
    exact absurd hp (h i hi)
theorem cCanLeave_loop {X M : Nat → Int32} {n c fu : Nat} (hR : Rel X M n) (hc : c < n) (hfu : 12 < fu) : ∀ (d k m : Nat), k + d = n → d < m → (∀ j, j < k → ¬ lvB M c j = true) → lp (fX1_canBeLeft_L8 fu X (nI c) (msk (hasA M c) 6)) m (nI k) = some (!bad M n c) := by
  have hn4 := hR.1
  intro d
  induction d with
  | zero =>
    intro k m hk hm hj
    obtain ⟨m, rfl⟩ : ∃ q, m = q + 1 := ⟨m - 1, by omega⟩
    have hk : k = n := by omega
    subst hk
    refine lp_inr ?_
    unfold fX1_canBeLeft_L8 bad
    rw [bad_swap, anyN_false hj]
    simp only [rdk2, hR.2.1, Option.bind_some, if_pos (q_le (Nat.le_refl k) (show k < 2 ^ 31 by omega)), cIsOnStep_e hR hc]
    cases ons M c <;> rfl
  | succ d ih =>
    intro k m hk hm hj
    obtain ⟨m, rfl⟩ : ∃ q, m = q + 1 := ⟨m - 1, by omega⟩
    have hkn : k < n := by omega
    have hlv : lvB M c k = true ↔ k ≠ c ∧ ∃ z, z < 6 ∧ occ M k z = true ∧ hasA M c z = true := by
      simp only [lvB, Bool.and_eq_true, anyN_iff, decide_eq_true_eq]
    by_cases hP : lvB M c k = true
    · refine lp_inr ?_
      obtain ⟨h1, z, hz, h2, h3⟩ := hlv.mp hP
      have hne : ¬ nI k = nI c := q_ne h1 (by omega) (by omega)
      have hand : ¬ (msk (occ M k) 6 &&& msk (hasA M c) 6) = 0 := by
        rw [msk_and0 _ _ 6 6 (by decide) (by decide)]
        intro h
        rw [h z hz hz h2] at h3
        exact absurd h3 (by decide)
      unfold fX1_canBeLeft_L8
      simp only [rdk2, hR.2.1, Option.bind_some, if_neg (q_nle hkn (show n < 2 ^ 31 by omega)), if_neg hne, cZonesOcc_e hR hkn hfu, if_neg hand]
      have : bad M n c = true := by
        unfold bad
        rw [bad_swap, (anyN_iff _ n).mpr ⟨k, hkn, hP⟩]
        simp
      rw [this]
      rfl
    · have hb : fX1_canBeLeft_L8 fu X (nI c) (msk (hasA M c) 6) (nI k) = some (.inl (nI (k + 1))) := by
        unfold fX1_canBeLeft_L8
        simp only [rdk2, hR.2.1, Option.bind_some, if_neg (q_nle hkn (show n < 2 ^ 31 by omega)), cZonesOcc_e hR hkn hfu, nI_1]
        by_cases e : k = c
        · rw [if_pos (by rw [e])]
        · rw [if_neg (q_ne e (by omega) (by omega))]
          have hand : (msk (occ M k) 6 &&& msk (hasA M c) 6) = 0 := by
            rw [msk_and0 _ _ 6 6 (by decide) (by decide)]
            intro z hz _ h3
            cases h2 : hasA M c z with
            | false => rfl
            | true => exact absurd (hlv.mpr ⟨e, z, hz, h3, h2⟩) hP
          rw [if_pos hand]
      rw [lp_inl hb]
      refine ih (k + 1) m (by omega) (by omega) (fun j hj2 => ?_)
      by_cases e : j = k
      · rw [e]; exact hP
      · exact hj j (by omega)
theorem cCanLeave_e {X M : Nat → Int32} {n c fu : Nat} (hR : Rel X M n) (hc : c < n) (hfu : 12 < fu) : fX1_canBeLeft fu X (nI c) = some (!bad M n c) := by
  unfold fX1_canBeLeft
  simp only [cZonesWith_e hR hc hfu, Option.bind_some]
  exact cCanLeave_loop hR hc hfu n 0 fu (by omega) (by have := hR.1; omega) (fun j hj => by omega)
section API4
variable {R HR M : Nat → Int32} {HS HN SV : Int32} {fu : Nat}
theorem leave_loop {n c : Nat} (hfu : 128 < fu) (hn : n ≤ 4) (hc : c < 4) (h2 : M 2 = nI n) (y2 : Bool) (y3 : Int32) (res : Int32 × (Nat → Int32) × Int32) (hx : fX4_leave_L29 fu M SV (nI c) y2 y3 (bad M n c, nI 6) = some (.inr res)) : lp (fX4_leave_L29 fu M SV (nI c) y2 y3) fu (ons M c, (0 : Int32)) = some res := by
  have h0 : (ons M c || anyN (lvZ M n c) 0) = ons M c := by simp [anyN]
  have := lp_go (body := fX4_leave_L29 fu M SV (nI c) y2 y3) (fu := fu) (fun i => (ons M c || anyN (lvZ M n c) i, nI i)) 6 res (by omega) (fun i hi => ?_) hx
  · have this : lp (fX4_leave_L29 fu M SV (nI c) y2 y3) fu (ons M c || anyN (lvZ M n c) 0, (0 : Int32)) = some res := this
    rw [h0] at this
    exact this
  · have hz : (msk (fun o => occ M o i) n &&& ((jshl (1 : Int32) (nI c)) ^^^ (-1 : Int32))) = 0 ↔ ¬ anyN (fun o => decide (o ≠ c) && occ M o i) n = true := by
      rw [msk_not hn hc, anyN_iff]
      constructor
      · rintro h ⟨o, ho, q⟩
        simp only [Bool.and_eq_true, decide_eq_true_eq] at q
        exact h o ho q.1 q.2
      · intro h o ho hne hp
        exact h ⟨o, ho, by simp [hne, hp]⟩
    unfold fX4_leave_L29
    simp only [if_neg (show ¬ (6 : Int32) ≤ nI i from q_nle (a := 6) hi (by decide)), hasArc_e hc hi, occupiers_e (show 12 < fu by omega) hn h2 hi, Option.bind_some, nI_1, hz]
    by_cases q1 : (ons M c || anyN (lvZ M n c) i) = true
    · rw [if_pos q1]
      have : (ons M c || anyN (lvZ M n c) (i + 1)) = true := by
        simp only [anyN]
        rw [← Bool.or_assoc, q1, Bool.true_or]
      rw [this]
    · rw [if_neg q1]
      have q1' : (ons M c || anyN (lvZ M n c) i) = false := by simpa using q1
      have e : (ons M c || anyN (lvZ M n c) (i + 1)) = lvZ M n c i := by
        simp only [anyN]
        rw [← Bool.or_assoc, q1', Bool.false_or]
      rw [e]
      unfold lvZ
      by_cases q2 : hasA M c i = true
      · rw [if_pos q2, q2, Bool.true_and]
        by_cases q3 : anyN (fun o => decide (o ≠ c) && occ M o i) n = true
        · rw [if_neg (fun h => h q3), q3]
        · rw [if_pos q3]
          have : anyN (fun o => decide (o ≠ c) && occ M o i) n = false := by simpa using q3
          rw [this]
      · rw [if_neg q2]
        have : hasA M c i = false := by simpa using q2
        rw [this, Bool.false_and]
theorem WFC_left {c n : Nat} (hW : WF M n) (hc : c < n) {v : Int32} (hv : v = 0 ∨ v = 1) : WF (setF M c 7 v) n := by
  refine hW.at (c := c) (setF_lo (by decide)) (setF_lo (by decide)) (fun c' e k hk => F_nc e (by decide) hk) (fun _ => ?_)
  obtain ⟨h1, h2, h3, h4, h5⟩ := hW.2.2 c hc
  refine ⟨by rw [F_nk (by decide)]; exact h1, by rw [F_nk (by decide)]; exact h2, by rw [F_nk (by decide)]; exact h3, by rw [F_nk (by decide), F_nk (by decide)]; exact h4, by rw [F_same]; exact hv⟩
theorem leave_pair (hfu : 128 < fu) (h : INV R HR HS HN M SV) (x1 : Int32) (x2 : Bool) : OutP (fX3_leave fu R HR HS HN x1 x2) (fX4_leave fu M SV x1 x2) := by
  obtain ⟨n, p, sv, hR, hW, hH, rfl, rfl, rfl⟩ := id h
  have hn4 := hR.1
  unfold fX3_leave fX4_leave
  simp only [cHasCrane_e hR, mIsCrane_e hR.1 hR.2.2.1, Option.bind_some]
  by_cases hc : 0 ≤ x1.toInt ∧ x1.toInt < n
  · obtain ⟨c, hcn, rfl⟩ := of_toInt hc (by omega)
    have hc4 := hR.lt hcn
    obtain ⟨HR', k1, k2, k3, k4, k5⟩ := keep_pair hfu hR hW hH
    obtain ⟨X', d1, d2⟩ := cDrop_e k4 hcn
    have had : F M c 7 = if lft M c = true then 1 else 0 := by
      rcases (hW.2.2 c hcn).2.2.2.2 with q | q
      · unfold lft; rw [q]; rfl
      · unfold lft; rw [q]; rfl
    have fT : ∀ v, OutP (some (v, upd X' (ix c 7) 1, HR', nI (min (sv + 1) 5), nI ((p + 1) % 5))) (some (v, setF (noT (svM M sv) c) c 7 1, nI (min (sv + 1) 5))) := fun v => OutP_rec v k3 (fun j hj => by rw [setF_hi hc4 (by decide) (by omega), noT_hi hc4 (by omega)]) (d2.set (k := 7) 1 hcn (by decide)) (WFC_left (k5.noT hcn) hcn (Or.inr rfl))
    have fF : ∀ v, OutP (some (v, upd R (ix c 7) 0, HR', nI (min (sv + 1) 5), nI ((p + 1) % 5))) (some (v, setF (svM M sv) c 7 0, nI (min (sv + 1) 5))) := fun v => OutP_rec v k3 (fun j hj => by rw [setF_hi hc4 (by decide) (by omega)]) (k4.set (k := 7) 0 hcn (by decide)) (WFC_left k5 hcn (Or.inl rfl))
    simp only [decide_eq_true hc, if_true, of7 hc4, isOnStep_e hc4, cIsLeft_e hR hcn, cCanLeave_e hR hcn (show 12 < fu by omega), Option.bind_some]
    cases x2 with
    | false =>
      have hx : fX4_leave_L29 fu M (nI sv) (nI c) false (F M c 7) (bad M n c, nI 6) = some (.inr (F M c 7, setF (svM M sv) c 7 0, nI (min (sv + 1) 5))) := by
        unfold fX4_leave_L29
        simp only [if_pos (show (6 : Int32) ≤ nI 6 from q_le (a := 6) (by decide) (by decide)), Bool.false_eq_true, if_false, k2, sets7 hc4, Option.bind_some]
      rw [leave_loop hfu hn4 hc4 hR.2.2.1 _ _ _ hx]
      simp only [Bool.false_eq_true, if_false, k1, fX1_takeBack, wr32 hc4, Option.bind_some]
      rw [had]
      split
      · exact fF 1
      · exact fF 0
    | true =>
      by_cases hl : lft M c = true
      · have h1 : F M c 7 = 1 := by rw [had, if_pos hl]
        have hx : fX4_leave_L29 fu M (nI sv) (nI c) true (F M c 7) (bad M n c, nI 6) = some (.inr (F M c 7, setF (noT (svM M sv) c) c 7 1, nI (min (sv + 1) 5))) := by
          unfold fX4_leave_L29
          simp only [if_pos (show (6 : Int32) ≤ nI 6 from q_le (a := 6) (by decide) (by decide)), if_true, h1, if_neg (show ¬ (1 : Int32) = 0 by decide), k2, noTarget_e hc4, sets7 hc4, Option.bind_some]
        rw [leave_loop hfu hn4 hc4 hR.2.2.1 _ _ _ hx]
        simp only [if_true, hl, k1, fX1_leaveToWind, d1, wr32 hc4, Option.bind_some, h1]
        exact fT 1
      · have h1 : F M c 7 = 0 := by rw [had, if_neg hl]
        by_cases hb : bad M n c = true
        · have hx : fX4_leave_L29 fu M (nI sv) (nI c) true (F M c 7) (bad M n c, nI 6) = some (.inr ((-103 : Int32), M, nI sv)) := by
            unfold fX4_leave_L29
            simp only [if_pos (show (6 : Int32) ≤ nI 6 from q_le (a := 6) (by decide) (by decide)), if_true, h1, hb]
          rw [leave_loop hfu hn4 hc4 hR.2.2.1 _ _ _ hx]
          simp only [if_true, if_neg hl, hb, Bool.not_true, Bool.false_eq_true, if_false]
          exact OutP_err h _
        · have hb' : bad M n c = false := by simpa using hb
          have hx : fX4_leave_L29 fu M (nI sv) (nI c) true (F M c 7) (bad M n c, nI 6) = some (.inr (F M c 7, setF (noT (svM M sv) c) c 7 1, nI (min (sv + 1) 5))) := by
            unfold fX4_leave_L29
            simp only [if_pos (show (6 : Int32) ≤ nI 6 from q_le (a := 6) (by decide) (by decide)), if_true, h1, hb', Bool.false_eq_true, if_false, k2, noTarget_e hc4, sets7 hc4, Option.bind_some]
          rw [leave_loop hfu hn4 hc4 hR.2.2.1 _ _ _ hx]
          simp only [if_true, if_neg hl, hb', Bool.not_false, k1, fX1_leaveToWind, d1, wr32 hc4, Option.bind_some, h1]
          exact fT 0
  · simp only [decide_eq_false hc]
    exact OutP_err h _
/-! notes -/
theorem note_Rel {n q : Nat} (hR : Rel R M n) (hq : q < 40) (v : Int32) : Rel (upd R (92 + q) v) (upd M (88 + q) v) n := by
  obtain ⟨h1, h2, h3, h4, h5, h6, h7, h8, h9⟩ := hR
  refine ⟨h1, by rw [upd_ne (by omega)]; exact h2, by rw [upd_ne (by omega)]; exact h3, by rw [upd_ne (by omega), upd_ne (by omega)]; exact h4, by rw [upd_ne (by omega), upd_ne (by omega)]; exact h5, by rw [upd_ne (by omega), upd_ne (by omega)]; exact h6, fun j hj => ?_, fun c hc k hk => ?_, fun c hc hc4 k hk4 hk => ?_⟩
  · by_cases e : j = q
    · subst e; rw [upd_eq, upd_eq]
    · rw [upd_ne (by omega), upd_ne (by omega)]; exact h7 j hj
  · have := ix_lt c (by omega) k hk
    rw [upd_ne (by omega), F_high (by omega) hk (by omega)]
    exact h8 c hc k hk
  · have := ix_lt c hc4 k hk
    rw [upd_ne (by omega)]
    exact h9 c hc hc4 k hk4 hk
theorem note_WF {n q : Nat} {v : Int32} (hn : n ≤ 4) (hW : WF M n) : WF (upd M (88 + q) v) n := hW.lo (upd_ne (by omega)) (upd_ne (by omega)) (fun c hc => (hW.2.2 c hc).congr (F_high (by omega) (by decide) (by omega)) (F_high (by omega) (by decide) (by omega)) (F_high (by omega) (by decide) (by omega)) (F_high (by omega) (by decide) (by omega)))
theorem WF_stp {n c : Nat} (hW : WF M n) (hc : c < n) : WF (stp M c) n := hW.at (c := c) (stp_lo (by decide)) (stp_lo (by decide)) (fun c' e k hk => stp_Fne e hk) (fun _ => WFC_stp (hW.2.2 c hc))
theorem wr92 {f : Nat → Int32} {q i : Nat} {v : Int32} (hq : q < 10) (hi : i < 4) : wrA f 132 (((92 : Int32) + (nI q * (4 : Int32))) + nI i) v = some (upd f (92 + (q * 4 + i)) v) := by
  show wrA f 132 ((nI 92 + (nI q * nI 4)) + nI i) v = _
  rw [pk_mul, nI_add, nI_add, wr_n (by omega) (by decide), Nat.add_assoc]
theorem wr92z {f : Nat → Int32} {q : Nat} {v : Int32} (hq : q < 10) : wrA f 132 ((92 : Int32) + (nI q * (4 : Int32))) v = some (upd f (92 + (q * 4 + 0)) v) := by
  show wrA f 132 (nI 92 + (nI q * nI 4)) v = _
  rw [pk_mul, nI_add, wr_n (by omega) (by decide), Nat.add_zero]
theorem wr88 {f : Nat → Int32} {q i : Nat} {v : Int32} (hq : q < 10) (hi : i < 4) : wrA f 896 (((88 : Int32) + ((4 : Int32) * nI q)) + nI i) v = some (upd f (88 + (q * 4 + i)) v) := by
  show wrA f 896 ((nI 88 + (nI 4 * nI q)) + nI i) v = _
  rw [pk_mul, nI_add, nI_add, wr_n (by omega) (by decide), Nat.mul_comm 4 q, Nat.add_assoc]
theorem wr88z {f : Nat → Int32} {q : Nat} {v : Int32} (hq : q < 10) : wrA f 896 ((88 : Int32) + ((4 : Int32) * nI q)) v = some (upd f (88 + (q * 4 + 0)) v) := by
  show wrA f 896 (nI 88 + (nI 4 * nI q)) v = _
  rw [pk_mul, nI_add, wr_n (by omega) (by decide), Nat.mul_comm 4 q, Nat.add_zero]
theorem rd88 {f : Nat → Int32} {q i : Nat} (hq : q < 10) (hi : i < 4) : rdA f 896 (((88 : Int32) + ((4 : Int32) * nI q)) + nI i) = some (f (88 + (q * 4 + i))) := by
  show rdA f 896 ((nI 88 + (nI 4 * nI q)) + nI i) = _
  rw [pk_mul, nI_add, nI_add, rd_n (by omega) (by decide), Nat.mul_comm 4 q, Nat.add_assoc]
theorem obs {α β : Type} {x : Option α} {a : α} {f : α → Option β} {r : Option β} (h : x = some a) (h2 : f a = r) : Option.bind x f = r := by
  rw [h]
  exact h2
def noteX (X : Nat → Int32) (q : Nat) (a b s : Int32) : Nat → Int32 := upd (upd (upd (upd (upd X (92 + (q * 4 + 0)) (X 0)) (92 + (q * 4 + 1)) a) (92 + (q * 4 + 2)) b) (92 + (q * 4 + 3)) s) 3 (nI (q + 1))
def noteN (T : Nat → Int32) (q : Nat) (a b : Int32) : Nat → Int32 := upd (upd (upd T (88 + (q * 4 + 0)) (T 0)) (88 + (q * 4 + 1)) a) (88 + (q * 4 + 2)) b
def noteM (T : Nat → Int32) (q : Nat) (a b s : Int32) : Nat → Int32 := upd (upd (noteN T q a b) (88 + (q * 4 + 3)) s) 3 (nI (q + 1))
theorem putNote_e {X : Nat → Int32} {q : Nat} (hq : q < 10) (h3 : X 3 = nI q) (a b s : Int32) : fX1_putNote X a b s = some (noteX X q a b s) := by
  unfold fX1_putNote
  refine obs rdk3 ?_
  rw [h3]
  refine obs rdk0 ?_
  refine obs (wr92z hq) ?_
  refine obs (wr92 (i := 1) hq (by decide)) ?_
  refine obs (wr92 (i := 2) hq (by decide)) ?_
  refine obs (wr92 (i := 3) hq (by decide)) ?_
  refine obs rdk3 ?_
  rw [upd_ne (by omega), upd_ne (by omega), upd_ne (by omega), upd_ne (by omega), h3, nI_1]
  refine obs wrk3 ?_
  rfl
theorem mNote_e {T : Nat → Int32} {q fu : Nat} (hq : q < 10) (h3 : T 3 = nI q) (a b s : Int32) (sv : Int32) (hc : fX4_clashes fu (noteN T q a b) = some s) : (Option.bind (rdA T 896 (3 : Int32)) fun v20 => Option.bind (rdA T 896 (0 : Int32)) fun v22 => Option.bind (wrA T 896 ((88 : Int32) + ((4 : Int32) * v20)) v22) fun v24 => Option.bind (wrA v24 896 (((88 : Int32) + ((4 : Int32) * v20)) + (1 : Int32)) a) fun v26 => Option.bind (wrA v26 896 (((88 : Int32) + ((4 : Int32) * v20)) + (2 : Int32)) b) fun v28 => Option.bind (fX4_clashes fu v28) fun v30 => Option.bind (wrA v28 896 (((88 : Int32) + ((4 : Int32) * v20)) + (3 : Int32)) v30) fun v32 => Option.bind (rdA v32 896 (3 : Int32)) fun v34 => Option.bind (wrA v32 896 (3 : Int32) (v34 + (1 : Int32))) fun v36 => Option.bind (rdA v36 896 (((88 : Int32) + ((4 : Int32) * v20)) + (3 : Int32))) fun v38 => some (v38, v36, sv)) = some (s, noteM T q a b s, sv) := by
  refine obs rdm3 ?_
  rw [h3]
  refine obs rdm0 ?_
  refine obs (wr88z hq) ?_
  refine obs (wr88 (i := 1) hq (by decide)) ?_
  refine obs (wr88 (i := 2) hq (by decide)) ?_
  refine obs hc ?_
  refine obs (wr88 (i := 3) hq (by decide)) ?_
  refine obs rdm3 ?_
  rw [upd_ne (by omega), upd_ne (by omega), upd_ne (by omega), upd_ne (by omega), h3, nI_1]
  refine obs wrm3 ?_
  refine obs (rd88 (i := 3) hq (by decide)) ?_
  rw [upd_ne (by omega), upd_eq]
  rfl
theorem override_pair (hfu : 128 < fu) (h : INV R HR HS HN M SV) (x1 x2 : Int32) : OutP (fX3_override fu R HR HS HN x1 x2) (fX4_override fu M SV x1 x2) := by
  obtain ⟨n, p, sv, hR, hW, hH, rfl, rfl, rfl⟩ := id h
  have hn4 := hR.1
  unfold fX3_override fX4_override fX1_noteCount
  rw [cHasCrane_e hR, mIsCrane_e hR.1 hR.2.2.1, Option.bind_some, Option.bind_some]
  by_cases hc : 0 ≤ x1.toInt ∧ x1.toInt < n
  · obtain ⟨c, hcn, rfl⟩ := of_toInt hc (by omega)
    have hc4 := hR.lt hcn
    rw [decide_eq_true hc, if_pos rfl, if_pos rfl, in_e, if_in2, Option.bind_some]
    by_cases h9 : (1 : Int32).toInt ≤ x2.toInt ∧ x2.toInt ≤ (9 : Int32).toInt
    · rw [decide_eq_true h9, if_pos rfl, if_pos rfl, cHasTarget_e hR hcn, hasTarget_e hc4, Option.bind_some, Option.bind_some]
      by_cases h2 : hasT M c = true
      · rw [if_pos h2, if_pos h2, cIsOnStep_e hR hcn, isOnStep_e hc4, Option.bind_some, Option.bind_some]
        by_cases h1 : ons M c = true
        · rw [if_pos h1, if_pos h1]
          exact OutP_err h _
        · obtain ⟨q, hq, hq3⟩ := hW.2.1
          rw [if_neg h1, if_neg h1, rdk3, rdm3, hR.2.2.2.2.2.1, hq3, Option.bind_some, Option.bind_some, Option.bind_some]
          by_cases e10 : q = 10
          · subst e10
            rw [if_neg (show ¬ nI 10 < (10 : Int32) by decide), if_pos (show nI 10 = (10 : Int32) from rfl)]
            exact OutP_err h _
          · have hq10 : q < 10 := by omega
            rw [if_pos (show nI q < (10 : Int32) from q_lt (b := 10) hq10 (by decide)), if_neg (show ¬ nI q = (10 : Int32) from q_ne (b := 10) e10 (by omega) (by decide))]
            obtain ⟨HR', k1, k2, k3, k4, k5⟩ := keep_pair hfu hR hW hH
            obtain ⟨X1, s1, s2⟩ := cEndStep_e k4 hcn
            have hS3 : stp (svM M sv) c 3 = nI q := by rw [stp_lo (by decide), svM_lo (by decide)]; exact hq3
            have hX3 : X1 3 = nI q := by rw [s2.2.2.2.2.2.1]; exact hS3
            have r1 := note_Rel s2 (q := q * 4 + 0) (by omega) (stp (svM M sv) c 0)
            have r2 := note_Rel r1 (q := q * 4 + 1) (by omega) (nI c)
            have r3 := note_Rel r2 (q := q * 4 + 2) (by omega) x2
            have w1 := WF_stp k5 hcn
            have w2 := note_WF (q := q * 4 + 0) (v := stp (svM M sv) c 0) hn4 w1
            have w3 := note_WF (q := q * 4 + 1) (v := nI c) hn4 w2
            have w4 := note_WF (q := q * 4 + 2) (v := x2) hn4 w3
            have hcl : fX4_clashes fu (noteN (stp (svM M sv) c) q (nI c) x2) = some (msk (cnf (stp (svM M sv) c) n) 6) := by
              have h22 : noteN (stp (svM M sv) c) q (nI c) x2 2 = nI n := r3.2.2.1
              rw [clashes_e (show 12 < fu by omega) hn4 h22]
              congr 1
              apply msk_congr
              intro z hz
              refine cnf_congr (fun c' hc' k hk => ?_) hz
              unfold noteN
              rw [F_high (by omega) hk (by omega), F_high (by omega) hk (by omega), F_high (by omega) hk (by omega)]
            have r4 := note_Rel r3 (q := q * 4 + 3) (by omega) (msk (cnf (stp (svM M sv) c) n) 6)
            have w5 := note_WF (q := q * 4 + 3) (v := msk (cnf (stp (svM M sv) c) n) 6) hn4 w4
            have r5 := upd3_Rel r4 (nI (q + 1))
            have w6 := upd3_WF (q := q + 1) w5 (by omega)
            have hX : noteX X1 q (nI c) x2 (msk (cnf (stp (svM M sv) c) n) 6) = upd (upd (upd (upd (upd X1 (92 + (q * 4 + 0)) (stp (svM M sv) c 0)) (92 + (q * 4 + 1)) (nI c)) (92 + (q * 4 + 2)) x2) (92 + (q * 4 + 3)) (msk (cnf (stp (svM M sv) c) n) 6)) 3 (nI (q + 1)) := by
              unfold noteX
              rw [s2.2.2.2.1]
            have o3 : (Option.bind (fX0_keep HR (nI sv) (nI p) R) fun v15 => Option.bind (fX1_endStep R (nI c)) fun v17 => Option.bind (fX1_conflictSet fu v17) fun v19 => Option.bind (fX1_putNote v17 (nI c) x2 v19) fun v21 => some (v19, v21, v15.1, v15.2.1, v15.2.2)) = some (msk (cnf (stp (svM M sv) c) n) 6, noteX X1 q (nI c) x2 (msk (cnf (stp (svM M sv) c) n) 6), HR', nI (min (sv + 1) 5), nI ((p + 1) % 5)) := by
              refine obs k1 ?_
              refine obs s1 ?_
              refine obs (cConflictSet_e s2 (show 12 < fu by omega)) ?_
              refine obs (putNote_e hq10 hX3 _ _ _) ?_
              rfl
            rw [o3, k2, Option.bind_some, steps_e hc4, Option.bind_some, mNote_e hq10 hS3 (nI c) x2 _ _ hcl, hX]
            refine OutP_rec _ k3 (fun j hj => ?_) r5 w6
            unfold noteM noteN
            rw [upd_ne (by omega), upd_ne (by omega), upd_ne (by omega), upd_ne (by omega), upd_ne (by omega), stp_hi hc4 (by omega)]
      · rw [if_neg h2, if_neg h2]
        exact OutP_err h _
    · rw [decide_eq_false h9, if_neg (by decide), if_neg (by decide)]
      exact OutP_err h _
  · rw [decide_eq_false hc, if_neg (by decide), if_neg (by decide)]
    exact OutP_err h _
end API4
