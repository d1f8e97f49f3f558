/-! what is foretold -/
theorem F_agree {M M' : Nat → Int32} (h : ∀ j, j < 128 → M' j = M j) {c k : Nat} (hc : c < 4) (hk : k < 21) : F M' c k = F M c k := h _ (by omega)
theorem Rel.agree {X M M' : Nat → Int32} {n : Nat} (hR : Rel X M n) (h : ∀ j, j < 128 → M' j = M j) : Rel X M' n := by
  obtain ⟨h1, h2, h3, h4, h5, h6, h7, h8, h9⟩ := hR
  refine ⟨h1, h2, by rw [h 2 (by decide)]; exact h3, by rw [h 0 (by decide)]; exact h4, by rw [h 1 (by decide)]; exact h5, by rw [h 3 (by decide)]; exact h6, fun j hj => by rw [h (88 + j) (by omega)]; exact h7 j hj, fun c hc k hk => by rw [F_agree h (by omega) hk]; exact h8 c hc k hk, h9⟩
theorem WF.agree {M M' : Nat → Int32} {n : Nat} (hn : n ≤ 4) (hW : WF M n) (h : ∀ j, j < 128 → M' j = M j) : WF M' n := by
  refine hW.lo (h 1 (by decide)) (h 3 (by decide)) (fun c hc => ?_)
  exact (hW.2.2 c hc).congr (F_agree h (by omega) (by decide)) (F_agree h (by omega) (by decide)) (F_agree h (by omega) (by decide)) (F_agree h (by omega) (by decide))
/-- after how many ticks from the i-th on g is gone, with r more to try -/
def vf (M : Nat → Int32) (n : Nat) (g : (Nat → Int32) → Bool) : Nat → Nat → Int32
  | i, 0 => if g (itM M n i) = true then -100 else nI i
  | i, r + 1 => if g (itM M n i) = true then vf M n g (i + 1) r else nI i
theorem vf_none {M : Nat → Int32} {n : Nat} {g : (Nat → Int32) → Bool} : ∀ (r i : Nat), (∀ j, g (itM M n (i + j)) = true) → vf M n g i r = -100 := by
  intro r
  induction r with
  | zero =>
    intro i h
    have h0 : g (itM M n i) = true := h 0
    unfold vf
    rw [if_pos h0]
  | succ r ih =>
    intro i h
    have h0 : g (itM M n i) = true := h 0
    unfold vf
    rw [if_pos h0]
    exact ih (i + 1) (fun j => by rw [show i + 1 + j = i + (j + 1) by omega]; exact h (j + 1))
def gAll (n : Nat) (M : Nat → Int32) : Bool := decide (¬ cnt (hasT M) n = 0)
def gOne (c : Nat) (M : Nat → Int32) : Bool := hasT M c
theorem cnt_nle {p : Nat → Bool} {n : Nat} (hn : n ≤ 4) : (nI (cnt p n) ≤ (0 : Int32)) ↔ cnt p n = 0 := by
  have h := cnt_le p n
  constructor
  · intro h2
    have := (nI_leI (a := cnt p n) (b := 0) (by omega) (by decide)).mp h2
    omega
  · intro h2
    rw [h2]
    decide
/-! the same by the class -/
theorem cTargets_e {X M : Nat → Int32} {n fu : Nat} (hR : Rel X M n) (hfu : 12 < fu) : fX1_cranesWithTarget fu X = some (msk (hasT M) n) := by
  have hn4 := hR.1
  refine lp_go (body := fX1_cranesWithTarget_L4 X) (fun j => (msk (hasT M) j, nI j)) n _ (by omega) ?_ ?_
  · intro j hj
    unfold fX1_cranesWithTarget_L4
    simp only [rdk2, hR.2.1, Option.bind_some, if_neg (q_nle hj (show n < 2 ^ 31 by omega)), cHasTarget_e hR hj, nI_1, msk_step _ j (show j < 6 by omega)]
    split <;> rfl
  · unfold fX1_cranesWithTarget_L4
    simp only [rdk2, hR.2.1, Option.bind_some, if_pos (q_le (Nat.le_refl n) (show n < 2 ^ 31 by omega))]
theorem cUntil_loop {M : Nat → Int32} {n fu : Nat} (hfu : 1001 < fu) (hW : WF M n) (y1 : Int32) (g : (Nat → Int32) → Bool) (hg : ∀ T : Nat → Int32, (msk (hasT T) n &&& y1) = 0 ↔ ¬ g T = true) (hgE : ∀ T T' : Nat → Int32, (∀ c, c < n → hasT T' c = hasT T c) → g T' = g T) :
    ∀ (r i m : Nat) (Y : Nat → Int32), i + r = 1000 → r + 1 < m → Rel Y (itM M n i) n → ∃ Y', lp (fX3_ticksUntilDone_L13 fu y1) m (Y, nI i) = some (vf M n g i r, Y') := by
  intro r
  induction r with
  | zero =>
    intro i m Y hi hm hR
    obtain ⟨m, rfl⟩ : ∃ q, m = q + 2 := ⟨m - 2, by omega⟩
    have hi : i = 1000 := by omega
    subst hi
    obtain ⟨Y1, p1, p2⟩ := cPass_e hR (itM_WF hW 1000) (fu := fu) (by omega)
    by_cases e : g (itM M n 1000) = true
    · have hz : ¬ (msk (hasT (itM M n 1000)) n &&& y1) = 0 := fun h => (hg _).mp h e
      have hb : fX3_ticksUntilDone_L13 fu y1 (Y, nI 1000) = (if mvP (itM M n 1000) n 10 = true then some (.inl (Y1, nI 1001)) else some (.inr ((-100 : Int32), Y1))) := by
        unfold fX3_ticksUntilDone_L13
        simp only [if_neg (show ¬ (1000 : Int32) < nI 1000 from q_nlt (b := 1000) (Nat.le_refl 1000) (by decide)), cTargets_e hR (show 12 < fu by omega), if_neg hz, p1, Option.bind_some, nI_1]
      unfold vf
      rw [if_pos e]
      by_cases e2 : mvP (itM M n 1000) n 10 = true
      · rw [if_pos e2] at hb
        rw [lp_inl hb]
        refine ⟨Y1, lp_inr ?_⟩
        unfold fX3_ticksUntilDone_L13
        simp only [if_pos (show (1000 : Int32) < nI 1001 from q_lt (a := 1000) (by decide) (by decide))]
      · rw [if_neg e2] at hb
        exact ⟨Y1, lp_inr hb⟩
    · have hz : (msk (hasT (itM M n 1000)) n &&& y1) = 0 := (hg _).mpr e
      refine ⟨Y, lp_inr ?_⟩
      unfold fX3_ticksUntilDone_L13 vf
      simp only [if_neg (show ¬ (1000 : Int32) < nI 1000 from q_nlt (b := 1000) (Nat.le_refl 1000) (by decide)), cTargets_e hR (show 12 < fu by omega), if_pos hz, Option.bind_some, if_neg e]
  | succ r ih =>
    intro i m Y hi hm hR
    obtain ⟨m, rfl⟩ : ∃ q, m = q + 1 := ⟨m - 1, by omega⟩
    have hlt : ¬ (1000 : Int32) < nI i := q_nlt (a := 1000) (b := i) (show i ≤ 1000 by omega) (by decide)
    by_cases e : g (itM M n i) = true
    · obtain ⟨Y1, p1, p2⟩ := cPass_e hR (itM_WF hW i) (fu := fu) (by omega)
      have hz : ¬ (msk (hasT (itM M n i)) n &&& y1) = 0 := fun h => (hg _).mp h e
      have hb : fX3_ticksUntilDone_L13 fu y1 (Y, nI i) = (if mvP (itM M n i) n 10 = true then some (.inl (Y1, nI (i + 1))) else some (.inr ((-100 : Int32), Y1))) := by
        unfold fX3_ticksUntilDone_L13
        simp only [if_neg hlt, cTargets_e hR (show 12 < fu by omega), if_neg hz, p1, Option.bind_some, nI_1]
      by_cases e2 : mvP (itM M n i) n 10 = true
      · rw [if_pos e2] at hb
        rw [lp_inl hb]
        obtain ⟨Y', h⟩ := ih (i + 1) m Y1 (by omega) (by omega) p2
        refine ⟨Y', ?_⟩
        rw [h]
        show _ = some ((if g (itM M n i) = true then _ else _), _)
        rw [if_pos e]
      · rw [if_neg e2] at hb
        refine ⟨Y1, ?_⟩
        rw [lp_inr hb]
        obtain ⟨d, hd⟩ := still_tick (itM_WF hW i) (by simpa using e2)
        have hd : EQd (itM M n i) (itM M n (i + 1)) n d := hd
        rw [vf_none (r + 1) i (fun j => by rw [hgE (itM M n i) (itM M n (i + j)) (fun c hc => still_hasT hd j hc)]; exact e)]
    · have hz : (msk (hasT (itM M n i)) n &&& y1) = 0 := (hg _).mpr e
      refine ⟨Y, lp_inr ?_⟩
      unfold fX3_ticksUntilDone_L13 vf
      simp only [if_neg hlt, cTargets_e hR (show 12 < fu by omega), if_pos hz, Option.bind_some, if_neg e]
theorem cpA_e {f g : Nat → Int32} {nf ng sp dp n : Nat} (h1 : sp + n ≤ nf) (h2 : dp + n ≤ ng) (hf : nf < 2 ^ 31) (hg : ng < 2 ^ 31) : cpA f nf g ng (nI sp) (nI dp) (nI n) = some (va_cpy f g sp dp n) := by
  unfold cpA
  rw [nI_toInt (by omega), nI_toInt (by omega), nI_toInt (by omega), nI_clamp (by omega), nI_clamp (by omega), nI_clamp (by omega), if_pos ⟨⟨by omega, by omega, by omega⟩, h1, h2⟩]
theorem Rel.agreeX {X X' M : Nat → Int32} {n : Nat} (hR : Rel X M n) (h : ∀ j, j < 132 → X' j = X j) : Rel X' M n := by
  obtain ⟨h1, h2, h3, h4, h5, h6, h7, h8, h9⟩ := hR
  refine ⟨h1, by rw [h 2 (by decide)]; exact h2, h3, by rw [h 0 (by decide)]; exact h4, by rw [h 1 (by decide)]; exact h5, by rw [h 3 (by decide)]; exact h6, fun j hj => by rw [h (92 + j) (by omega)]; exact h7 j hj, fun c hc k hk => ?_, fun c hc hc4 k hk4 hk => ?_⟩
  · have := ix_lt c (by omega) k hk
    rw [h _ (by omega)]
    exact h8 c hc k hk
  · have := ix_lt c hc4 k hk
    rw [h _ (by omega)]
    exact h9 c hc hc4 k hk4 hk
theorem copyFrom_e (T X : Nat → Int32) : ∃ T', fX1_copyFrom T X = some T' ∧ ∀ j, j < 132 → T' j = X j := by
  refine ⟨va_cpy X T 0 0 132, ?_, fun j hj => by rw [pk_cpy_in (by omega) (by omega)]; congr 1; omega⟩
  unfold fX1_copyFrom
  have h : cpA X 132 T 132 (0 : Int32) (0 : Int32) (132 : Int32) = some (va_cpy X T 0 0 132) := cpA_e (sp := 0) (dp := 0) (n := 132) (by decide) (by decide) (by decide) (by decide)
  rw [h]
  rfl
/-! waits -/
theorem cWait_e {X M : Nat → Int32} {n c : Nat} (hR : Rel X M n) (hc : c < n) : fX1_waitOf X (nI c) = some (F M c 6) := by
  unfold fX1_waitOf
  simp only [rd28 (hR.lt hc), hR.f hc 6 (by decide), Option.bind_some]
theorem cWaits_loop {M : Nat → Int32} {fu n c : Nat} (hfu : 12 < fu) (hW : WF M n) (hc : c < n) (y3 : Int32) (w : Nat) (hw : w < 2 ^ 31) : ∀ (r i m : Nat) (Y : Nat → Int32), i + r = w → r < m → Rel Y (itM M n i) n → ∃ Y', lp (fX3_foretoldWaits_L23 fu (nI c) (nI w) y3) m (Y, nI i) = some (F (itM M n w) c 6 - y3, Y') := by
  intro r
  induction r with
  | zero =>
    intro i m Y hi hm hR
    obtain ⟨m, rfl⟩ : ∃ q, m = q + 1 := ⟨m - 1, by omega⟩
    have hi : i = w := by omega
    subst hi
    refine ⟨Y, lp_inr ?_⟩
    unfold fX3_foretoldWaits_L23
    simp only [if_pos (q_le (Nat.le_refl i) hw), cWait_e hR hc, Option.bind_some]
  | succ r ih =>
    intro i m Y hi hm hR
    obtain ⟨m, rfl⟩ : ∃ q, m = q + 1 := ⟨m - 1, by omega⟩
    obtain ⟨Y1, p1, p2⟩ := cPass_e hR (itM_WF hW i) (fu := fu) (by omega)
    have p2 : Rel Y1 (itM M n (i + 1)) n := p2
    have hb : fX3_foretoldWaits_L23 fu (nI c) (nI w) y3 (Y, nI i) = (if mvP (itM M n i) n 10 = true then some (.inl (Y1, nI (i + 1))) else some (.inr ((F (itM M n i) c 6 - y3) + ((nI w - nI i) * (F (itM M n (i + 1)) c 6 - F (itM M n i) c 6)), Y1))) := by
      unfold fX3_foretoldWaits_L23
      simp only [if_neg (q_nle (show i < w by omega) hw), cWait_e hR hc, p1, cWait_e p2 hc, Option.bind_some, nI_1]
    by_cases e2 : mvP (itM M n i) n 10 = true
    · rw [if_pos e2] at hb
      rw [lp_inl hb]
      exact ih (i + 1) m Y1 (by omega) (by omega) p2
    · rw [if_neg e2] at hb
      refine ⟨Y1, ?_⟩
      rw [lp_inr hb]
      obtain ⟨d, hd⟩ := still_tick (itM_WF hW i) (by simpa using e2)
      have hd : EQd (itM M n i) (itM M n (i + 1)) n d := hd
      have h1 := hd.2.2 c hc
      have h2 := still_wait hd (w - i) hc
      rw [show i + (w - i) = w by omega] at h2
      rw [h1, h2, pk_sub (show i ≤ w by omega)]
      congr 2
      generalize F (itM M n i) c 6 = x
      generalize d c = y
      have e1 : x + y - x = y := by rw [Int32.add_comm, Int32.add_sub_cancel]
      rw [e1]
      rw [Int32.sub_eq_add_neg, Int32.sub_eq_add_neg, Int32.add_assoc, Int32.add_assoc, Int32.add_comm (-y3)]

theorem cUntil_e {X T M : Nat → Int32} {n fu : Nat} (hfu : 2000 < fu) (hR : Rel X M n) (hW : WF M n) (y1 : Int32) (g : (Nat → Int32) → Bool) (hg : ∀ T : Nat → Int32, (msk (hasT T) n &&& y1) = 0 ↔ ¬ g T = true) (hgE : ∀ T T' : Nat → Int32, (∀ c, c < n → hasT T' c = hasT T c) → g T' = g T) :
    ∃ T', fX3_ticksUntilDone fu X T y1 = some (vf M n g 0 1000, T') := by
  obtain ⟨T1, t1, t2⟩ := copyFrom_e T X
  obtain ⟨T', h⟩ := cUntil_loop (fu := fu) (by omega) hW y1 g hg hgE 1000 0 fu T1 (by decide) (by omega) (hR.agreeX t2)
  refine ⟨T', ?_⟩
  unfold fX3_ticksUntilDone
  simp only [t1, Option.bind_some]
  exact h
theorem allDone_e {X T M : Nat → Int32} {n fu : Nat} (hfu : 2000 < fu) (hR : Rel X M n) (hW : WF M n) : ∃ T' : Nat → Int32, fX3_allDone fu X T = some (vf M n (gAll n) 0 1000, T') := by
  have hn4 := hR.1
  have hg : ∀ T : Nat → Int32, (msk (hasT T) n &&& (15 : Int32)) = 0 ↔ ¬ gAll n T = true := by
    intro T
    have h15 : (15 : Int32) = msk (fun _ => true) 4 := by decide
    rw [h15, msk_and0 _ _ n 4 (by omega) (by decide)]
    unfold gAll
    simp only [decide_eq_true_eq, Classical.not_not, cnt_0]
    constructor
    · intro h i hi hp
      exact absurd (h i hi (by omega) hp) (by decide)
    · intro h i hi _ hp
      exact absurd hp (h i hi)
  have hgE : ∀ T T' : Nat → Int32, (∀ c, c < n → hasT T' c = hasT T c) → gAll n T' = gAll n T := by
    intro T T' h
    have : cnt (hasT T') n = cnt (hasT T) n := by
      clear hg hR hn4 hW
      induction n with
      | zero => rfl
      | succ n ih =>
        unfold cnt
        rw [h n (by omega), ih (fun c hc => h c (by omega))]
    unfold gAll
    rw [this]
  obtain ⟨T', h⟩ := cUntil_e (T := T) hfu hR hW 15 (gAll n) hg hgE
  refine ⟨T', ?_⟩
  unfold fX3_allDone
  rw [h]
  rfl
theorem doneOne_e {X T M : Nat → Int32} {n fu c : Nat} (hfu : 2000 < fu) (hR : Rel X M n) (hW : WF M n) (hc : c < n) : ∃ T' : Nat → Int32, fX3_ticksUntilDone fu X T (jshl (1 : Int32) (nI c)) = some (vf M n (gOne c) 0 1000, T') := by
  have hn4 := hR.1
  exact cUntil_e (T := T) hfu hR hW (jshl (1 : Int32) (nI c)) (gOne c) (fun T => msk_bit0 (hasT T) n c (by omega) hc) (fun T T' h => h c hc)
