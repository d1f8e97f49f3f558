/-! leave, override -/
theorem notset16 : ∀ k, k < 16 → ∀ c, c < 4 → ((nI k &&& ((jshl (1 : Int32) (nI c)) ^^^ (-1 : Int32))) = 0 ↔ ∀ i, i < 4 → i ≠ c → k.testBit i = false) := by decide +kernel
theorem msk_not {p : Nat → Bool} {n c : Nat} (hn : n ≤ 4) (hc : c < 4) : (msk p n &&& ((jshl (1 : Int32) (nI c)) ^^^ (-1 : Int32))) = 0 ↔ ∀ o, o < n → o ≠ c → ¬ p o = true := by
  have hlt : mskN p n < 16 := Nat.lt_of_lt_of_le (mskN_lt p n) (Nat.pow_le_pow_right (n := 2) (by decide) hn)
  refine (notset16 (mskN p n) hlt c hc).trans ?_
  constructor
  · intro h o ho hne hp
    have := h o (by omega) hne
    rw [mskN_bit] at this
    simp [ho, hp] at this
  · intro h i hi hne
    rw [mskN_bit]
    by_cases q : i < n
    · have := h i q hne
      simp [q, this]
    · simp [q]
/-- another crane is in a zone where this one has an arc -/
def lvB (M : Nat → Int32) (c o : Nat) : Bool := decide (o ≠ c) && anyN (fun z => occ M o z && hasA M c z) 6
def lvZ (M : Nat → Int32) (n c z : Nat) : Bool := hasA M c z && anyN (fun o => decide (o ≠ c) && occ M o z) n
def bad (M : Nat → Int32) (n c : Nat) : Bool := ons M c || anyN (lvZ M n c) 6
theorem bad_swap {M : Nat → Int32} {n c : Nat} : anyN (lvZ M n c) 6 = anyN (lvB M c) n := by
  rw [Bool.eq_iff_iff, anyN_iff, anyN_iff]
  constructor
  · rintro ⟨z, hz, h⟩
    simp only [lvZ, Bool.and_eq_true, anyN_iff, decide_eq_true_eq] at h
    obtain ⟨h1, o, ho, h2, h3⟩ := h
    refine ⟨o, ho, ?_⟩
    simp only [lvB, Bool.and_eq_true, anyN_iff, decide_eq_true_eq]
    exact ⟨h2, z, hz, h3, h1⟩
  · rintro ⟨o, ho, h⟩
    simp only [lvB, Bool.and_eq_true, anyN_iff, decide_eq_true_eq] at h
    obtain ⟨h1, z, hz, h2, h3⟩ := h
    refine ⟨z, hz, ?_⟩
    simp only [lvZ, Bool.and_eq_true, anyN_iff, decide_eq_true_eq]
    exact ⟨h3, o, ho, h1, h2⟩
theorem anyN_false {p : Nat → Bool} {n : Nat} (h : ∀ i, i < n → ¬ p i = true) : anyN p n = false := by
  cases e : anyN p n with
  | false => rfl
  | true =>
    obtain ⟨i, hi, hp⟩ := (anyN_iff p n).mp e
    exact absurd hp (h i hi)
theorem cCanLeave_loop {X M : Nat → Int32} {n c fu : Nat} (hR : Rel X M n) (hc : c < n) (hfu : 12 < fu) : ∀ (d k m : Nat), k + d = n → d < m → (∀ j, j < k → ¬ lvB M c j = true) → lp (fX1_canBeLeft_L8 fu X (nI c) (msk (hasA M c) 6)) m (nI k) = some (!bad M n c) := by
  have hn4 := hR.1
  intro d
  induction d with
  | zero =>
    intro k m hk hm hj
    obtain ⟨m, rfl⟩ : ∃ q, m = q + 1 := ⟨m - 1, by omega⟩
    have hk : k = n := by omega
    subst hk
    refine lp_inr ?_
    unfold fX1_canBeLeft_L8 bad
    rw [bad_swap, anyN_false hj]
    simp only [rdk2, hR.2.1, Option.bind_some, if_pos (q_le (Nat.le_refl k) (show k < 2 ^ 31 by omega)), cIsOnStep_e hR hc]
    cases ons M c <;> rfl
  | succ d ih =>
    intro k m hk hm hj
    obtain ⟨m, rfl⟩ : ∃ q, m = q + 1 := ⟨m - 1, by omega⟩
    have hkn : k < n := by omega
    have hlv : lvB M c k = true ↔ k ≠ c ∧ ∃ z, z < 6 ∧ occ M k z = true ∧ hasA M c z = true := by
      simp only [lvB, Bool.and_eq_true, anyN_iff, decide_eq_true_eq]
    by_cases hP : lvB M c k = true
    · refine lp_inr ?_
      obtain ⟨h1, z, hz, h2, h3⟩ := hlv.mp hP
      have hne : ¬ nI k = nI c := q_ne h1 (by omega) (by omega)
      have hand : ¬ (msk (occ M k) 6 &&& msk (hasA M c) 6) = 0 := by
        rw [msk_and0 _ _ 6 6 (by decide) (by decide)]
        intro h
        rw [h z hz hz h2] at h3
        exact absurd h3 (by decide)
      unfold fX1_canBeLeft_L8
      simp only [rdk2, hR.2.1, Option.bind_some, if_neg (q_nle hkn (show n < 2 ^ 31 by omega)), if_neg hne, cZonesOcc_e hR hkn hfu, if_neg hand]
      have : bad M n c = true := by
        unfold bad
        rw [bad_swap, (anyN_iff _ n).mpr ⟨k, hkn, hP⟩]
        simp
      rw [this]
      rfl
    · have hb : fX1_canBeLeft_L8 fu X (nI c) (msk (hasA M c) 6) (nI k) = some (.inl (nI (k + 1))) := by
        unfold fX1_canBeLeft_L8
        simp only [rdk2, hR.2.1, Option.bind_some, if_neg (q_nle hkn (show n < 2 ^ 31 by omega)), cZonesOcc_e hR hkn hfu, nI_1]
        by_cases e : k = c
        · rw [if_pos (by rw [e])]
        · rw [if_neg (q_ne e (by omega) (by omega))]
          have hand : (msk (occ M k) 6 &&& msk (hasA M c) 6) = 0 := by
            rw [msk_and0 _ _ 6 6 (by decide) (by decide)]
            intro z hz _ h3
            cases h2 : hasA M c z with
            | false => rfl
            | true => exact absurd (hlv.mpr ⟨e, z, hz, h3, h2⟩) hP
          rw [if_pos hand]
      rw [lp_inl hb]
      refine ih (k + 1) m (by omega) (by omega) (fun j hj2 => ?_)
      by_cases e : j = k
      · rw [e]; exact hP
      · exact hj j (by omega)
theorem cCanLeave_e {X M : Nat → Int32} {n c fu : Nat} (hR : Rel X M n) (hc : c < n) (hfu : 12 < fu) : fX1_canBeLeft fu X (nI c) = some (!bad M n c) := by
  unfold fX1_canBeLeft
  simp only [cZonesWith_e hR hc hfu, Option.bind_some]
  exact cCanLeave_loop hR hc hfu n 0 fu (by omega) (by have := hR.1; omega) (fun j hj => by omega)
section API4
variable {R HR M : Nat → Int32} {HS HN SV : Int32} {fu : Nat}
theorem WFC_left {c n : Nat} (hW : WF M n) (hc : c < n) {v : Int32} (hv : v = 0 ∨ v = 1) : WF (setF M c 7 v) n := by
  refine hW.at (c := c) (setF_lo (by decide)) (setF_lo (by decide)) (fun c' e k hk => F_nc e (by decide) hk) (fun _ => ?_)
  obtain ⟨h1, h2, h3, h4, h5⟩ := hW.2.2 c hc
  refine ⟨by rw [F_nk (by decide)]; exact h1, by rw [F_nk (by decide)]; exact h2, by rw [F_nk (by decide)]; exact h3, by rw [F_nk (by decide), F_nk (by decide)]; exact h4, by rw [F_same]; exact hv⟩
/-! notes -/
theorem note_Rel {n q : Nat} (hR : Rel R M n) (hq : q < 40) (v : Int32) : Rel (upd R (92 + q) v) (upd M (88 + q) v) n := by
  obtain ⟨h1, h2, h3, h4, h5, h6, h7, h8, h9⟩ := hR
  refine ⟨h1, by rw [upd_ne (by omega)]; exact h2, by rw [upd_ne (by omega)]; exact h3, by rw [upd_ne (by omega), upd_ne (by omega)]; exact h4, by rw [upd_ne (by omega), upd_ne (by omega)]; exact h5, by rw [upd_ne (by omega), upd_ne (by omega)]; exact h6, fun j hj => ?_, fun c hc k hk => ?_, fun c hc hc4 k hk4 hk => ?_⟩
  · by_cases e : j = q
    · subst e; rw [upd_eq, upd_eq]
    · rw [upd_ne (by omega), upd_ne (by omega)]; exact h7 j hj
  · have := ix_lt c (by omega) k hk
    rw [upd_ne (by omega), F_high (by omega) hk (by omega)]
    exact h8 c hc k hk
  · have := ix_lt c hc4 k hk
    rw [upd_ne (by omega)]
    exact h9 c hc hc4 k hk4 hk
theorem note_WF {n q : Nat} {v : Int32} (hn : n ≤ 4) (hW : WF M n) : WF (upd M (88 + q) v) n := hW.lo (upd_ne (by omega)) (upd_ne (by omega)) (fun c hc => (hW.2.2 c hc).congr (F_high (by omega) (by decide) (by omega)) (F_high (by omega) (by decide) (by omega)) (F_high (by omega) (by decide) (by omega)) (F_high (by omega) (by decide) (by omega)))
theorem WF_stp {n c : Nat} (hW : WF M n) (hc : c < n) : WF (stp M c) n := hW.at (c := c) (stp_lo (by decide)) (stp_lo (by decide)) (fun c' e k hk => stp_Fne e hk) (fun _ => WFC_stp (hW.2.2 c hc))
theorem wr92 {f : Nat → Int32} {q i : Nat} {v : Int32} (hq : q < 10) (hi : i < 4) : wrA f 132 (((92 : Int32) + (nI q * (4 : Int32))) + nI i) v = some (upd f (92 + (q * 4 + i)) v) := by
  show wrA f 132 ((nI 92 + (nI q * nI 4)) + nI i) v = _
  rw [pk_mul, nI_add, nI_add, wr_n (by omega) (by decide), Nat.add_assoc]
theorem wr92z {f : Nat → Int32} {q : Nat} {v : Int32} (hq : q < 10) : wrA f 132 ((92 : Int32) + (nI q * (4 : Int32))) v = some (upd f (92 + (q * 4 + 0)) v) := by
  show wrA f 132 (nI 92 + (nI q * nI 4)) v = _
  rw [pk_mul, nI_add, wr_n (by omega) (by decide), Nat.add_zero]
theorem obs {α β : Type} {x : Option α} {a : α} {f : α → Option β} {r : Option β} (h : x = some a) (h2 : f a = r) : Option.bind x f = r := by
  rw [h]
  exact h2
def noteX (X : Nat → Int32) (q : Nat) (a b s : Int32) : Nat → Int32 := upd (upd (upd (upd (upd X (92 + (q * 4 + 0)) (X 0)) (92 + (q * 4 + 1)) a) (92 + (q * 4 + 2)) b) (92 + (q * 4 + 3)) s) 3 (nI (q + 1))
theorem putNote_e {X : Nat → Int32} {q : Nat} (hq : q < 10) (h3 : X 3 = nI q) (a b s : Int32) : fX1_putNote X a b s = some (noteX X q a b s) := by
  unfold fX1_putNote
  refine obs rdk3 ?_
  rw [h3]
  refine obs rdk0 ?_
  refine obs (wr92z hq) ?_
  refine obs (wr92 (i := 1) hq (by decide)) ?_
  refine obs (wr92 (i := 2) hq (by decide)) ?_
  refine obs (wr92 (i := 3) hq (by decide)) ?_
  refine obs rdk3 ?_
  rw [upd_ne (by omega), upd_ne (by omega), upd_ne (by omega), upd_ne (by omega), h3, nI_1]
  refine obs wrk3 ?_
  rfl
end API4

