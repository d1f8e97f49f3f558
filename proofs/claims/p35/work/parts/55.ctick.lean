/-! what holds of every state; the class's tick -/
theorem lp_ex {σ ρ : Type} {body : σ → Option (σ ⊕ ρ)} (I : Nat → σ → Prop) (Post : ρ → Prop) (k : Nat) (hs : ∀ i, i < k → ∀ s, I i s → ∃ s', body s = some (.inl s') ∧ I (i + 1) s') (hx : ∀ s, I k s → ∃ r, body s = some (.inr r) ∧ Post r) : ∀ (d n i : Nat) (s : σ), i + d = k → d < n → I i s → ∃ r, lp body n s = some r ∧ Post r := by
  intro d
  induction d with
  | zero =>
    intro n i s hi hn h
    obtain ⟨n, rfl⟩ : ∃ q, n = q + 1 := ⟨n - 1, by omega⟩
    have hi : i = k := by omega
    subst hi
    obtain ⟨r, h1, h2⟩ := hx s h
    exact ⟨r, lp_inr h1, h2⟩
  | succ d ih =>
    intro n i s hi hn h
    obtain ⟨n, rfl⟩ : ∃ q, n = q + 1 := ⟨n - 1, by omega⟩
    obtain ⟨s', h1, h2⟩ := hs i (by omega) s h
    rw [lp_inl h1]
    exact ih n (i + 1) s' (by omega) (by omega) h2
def WFC (M : Nat → Int32) (c : Nat) : Prop := (∃ a, a < 36 ∧ F M c 0 = nI a) ∧ (F M c 3 = -100 ∨ ∃ t, t < 36 ∧ F M c 3 = nI t) ∧ (F M c 4 = 0 ∨ F M c 4 = 1 ∨ F M c 4 = -1) ∧ (F M c 3 = -100 ∨ ¬ F M c 4 = 0) ∧ (F M c 7 = 0 ∨ F M c 7 = 1)
def WF (M : Nat → Int32) (n : Nat) : Prop := (∃ w, w < 36 ∧ M 1 = nI w) ∧ (∃ k, k ≤ 10 ∧ M 3 = nI k) ∧ ∀ c, c < n → WFC M c
def wndF (a w : Int32) : Int32 := if jrem ((1 * (w - a)) + (36 : Int32)) (36 : Int32) = (0 : Int32) then jrem (a + (36 : Int32)) (36 : Int32) else if (18 : Int32) < jrem ((1 * (w - a)) + (36 : Int32)) (36 : Int32) then jrem (a + (35 : Int32)) (36 : Int32) else jrem (a + (37 : Int32)) (36 : Int32)
theorem wnd_F (M : Nat → Int32) (c : Nat) : wnd M c = wndF (F M c 0) (M 1) := rfl
theorem a_wnd1 : ∀ a, a < 36 → wndF (nI a) (nI a) = nI a := by decide +kernel
theorem a_wnd2 : ∀ a, a < 36 → ∀ w, w < 36 → ¬ a = w → jrem ((nI a + (if (18 : Int32) < jrem ((nI w - nI a) + (36 : Int32)) (36 : Int32) then (-1 : Int32) else (1 : Int32))) + (36 : Int32)) (36 : Int32) = wndF (nI a) (nI w) := by decide +kernel
theorem a_wnd3 : ∀ a, a < 36 → ∀ w, w < 36 → 0 ≤ (wndF (nI a) (nI w)).toInt ∧ (wndF (nI a) (nI w)).toInt < 36 := by decide +kernel
theorem a_nx0 : ∀ a, a < 36 → 0 ≤ (jrem ((nI a + 0) + (36 : Int32)) (36 : Int32)).toInt ∧ (jrem ((nI a + 0) + (36 : Int32)) (36 : Int32)).toInt < 36 := by decide +kernel
theorem a_nx1 : ∀ a, a < 36 → 0 ≤ (jrem ((nI a + 1) + (36 : Int32)) (36 : Int32)).toInt ∧ (jrem ((nI a + 1) + (36 : Int32)) (36 : Int32)).toInt < 36 := by decide +kernel
theorem a_nx2 : ∀ a, a < 36 → 0 ≤ (jrem ((nI a + -1) + (36 : Int32)) (36 : Int32)).toInt ∧ (jrem ((nI a + -1) + (36 : Int32)) (36 : Int32)).toInt < 36 := by decide +kernel
theorem nxt_rng {M : Nat → Int32} {c : Nat} (h : WFC M c) : ∃ b, b < 36 ∧ nxt M c = nI b := by
  obtain ⟨⟨a, ha, h0⟩, -, h4, -, -⟩ := h
  unfold nxt
  rw [h0]
  rcases h4 with h4 | h4 | h4 <;> rw [h4]
  · exact of_toInt (a_nx0 a ha) (by decide)
  · exact of_toInt (a_nx1 a ha) (by decide)
  · exact of_toInt (a_nx2 a ha) (by decide)
theorem setF_id {M : Nat → Int32} {c k : Nat} : setF M c k (F M c k) = M := by
  funext j
  unfold setF upd F
  split
  · rename_i h; rw [h]
  · rfl
theorem WFC.congr {M M' : Nat → Int32} {c : Nat} (h : WFC M c) (h0 : F M' c 0 = F M c 0) (h3 : F M' c 3 = F M c 3) (h4 : F M' c 4 = F M c 4) (h7 : F M' c 7 = F M c 7) : WFC M' c := by
  unfold WFC
  rw [h0, h3, h4, h7]
  exact h
theorem WFC.ang {M M' : Nat → Int32} {c b : Nat} (h : WFC M c) (hb : b < 36) (h0 : F M' c 0 = nI b) (h3 : F M' c 3 = F M c 3) (h4 : F M' c 4 = F M c 4) (h7 : F M' c 7 = F M c 7) : WFC M' c := by
  unfold WFC
  rw [h3, h4, h7]
  exact ⟨⟨b, hb, h0⟩, h.2⟩
theorem WFC.none {M : Nat → Int32} {c : Nat} (h : WFC M c) : WFC (noT M c) c := by
  have e0 : F (noT M c) c 0 = F M c 0 := by unfold noT; rw [F_nk (by decide), F_nk (by decide)]
  have e7 : F (noT M c) c 7 = F M c 7 := by unfold noT; rw [F_nk (by decide), F_nk (by decide)]
  have e3 : F (noT M c) c 3 = -100 := by unfold noT; rw [F_nk (by decide), F_same]
  have e4 : F (noT M c) c 4 = 0 := by unfold noT; rw [F_same]
  exact ⟨by rw [e0]; exact h.1, Or.inl e3, Or.inl e4, Or.inl e3, by rw [e7]; exact h.2.2.2.2⟩
theorem WFC_stp {M : Nat → Int32} {c : Nat} (h : WFC M c) : WFC (stp M c) c := by
  obtain ⟨b, hb, hn⟩ := nxt_rng h
  have h3 : WFC (stp3 M c) c := by
    refine h.ang hb ?_ ?_ ?_ ?_
    · unfold stp3; rw [F_nk (by decide), F_nk (by decide), F_same]; exact hn
    · unfold stp3; rw [F_nk (by decide), F_nk (by decide), F_nk (by decide)]
    · unfold stp3; rw [F_nk (by decide), F_nk (by decide), F_nk (by decide)]
    · unfold stp3; rw [F_nk (by decide), F_nk (by decide), F_nk (by decide)]
  unfold stp
  split
  · exact h3.none
  · exact h3
theorem stp_Fne {M : Nat → Int32} {c c' k : Nat} (h : c' ≠ c) (hk : k < 21) : F (stp M c) c' k = F M c' k := by
  unfold stp
  split
  · unfold noT stp3
    rw [F_nc h (by decide) hk, F_nc h (by decide) hk, F_nc h (by decide) hk, F_nc h (by decide) hk, F_nc h (by decide) hk]
  · unfold stp3
    rw [F_nc h (by decide) hk, F_nc h (by decide) hk, F_nc h (by decide) hk]
theorem turn_Fne {M : Nat → Int32} {n c c' k : Nat} (h : c' ≠ c) (hk : k < 21) : F (turn M n c) c' k = F M c' k := by
  unfold turn prg
  split
  · exact F_nc h (by decide) hk
  · split
    · exact F_nc h (by decide) hk
    · split
      · split
        · rw [stp_Fne h hk, F_nc h (by decide) hk]
        · exact F_nc h (by decide) hk
      · rfl
theorem WF.lo {M M' : Nat → Int32} {n : Nat} (h : WF M n) (h1 : M' 1 = M 1) (h3 : M' 3 = M 3) (hc : ∀ c, c < n → WFC M' c) : WF M' n := ⟨by rw [h1]; exact h.1, by rw [h3]; exact h.2.1, hc⟩
theorem WF_turn {M : Nat → Int32} {n c : Nat} (h : WF M n) (hc : c < n) : WF (turn M n c) n := by
  refine h.lo (turn_lo (by decide)) (turn_lo (by decide)) (fun c' hc' => ?_)
  by_cases e : c' = c
  · subst e
    have hw := h.2.2 c' hc'
    unfold turn
    split
    · obtain ⟨a, ha, h0⟩ := hw.1
      obtain ⟨w, hw1, h1⟩ := h.1
      have hr : ∃ b, b < 36 ∧ wnd M c' = nI b := by
        rw [wnd_F, h0, h1]
        exact of_toInt (a_wnd3 a ha w hw1) (by decide)
      obtain ⟨b, hb, hb2⟩ := hr
      exact hw.ang hb (by rw [F_same]; exact hb2) (F_nk (by decide)) (F_nk (by decide)) (F_nk (by decide))
    · split
      · exact hw.congr (F_nk (by decide)) (F_nk (by decide)) (F_nk (by decide)) (F_nk (by decide))
      · split
        · have hp : WFC (prg M c') c' := hw.congr (F_nk (by decide)) (F_nk (by decide)) (F_nk (by decide)) (F_nk (by decide))
          split
          · exact WFC_stp hp
          · exact hp
        · exact hw
  · exact (h.2.2 c' hc').congr (turn_Fne e (by decide)) (turn_Fne e (by decide)) (turn_Fne e (by decide)) (turn_Fne e (by decide))
theorem WF_tkC {M : Nat → Int32} {n : Nat} {p : Int32} (h : WF M n) (j : Nat) (hj : j ≤ n) : WF (tkC M n p j) n := by
  induction j with
  | zero => exact h
  | succ j ih =>
    unfold tkC
    split
    · exact WF_turn (ih (by omega)) (by omega)
    · exact ih (by omega)
theorem WF_tkP {M : Nat → Int32} {n : Nat} (h : WF M n) (k : Nat) : WF (tkP M n k) n := by
  induction k with
  | zero => exact h
  | succ k ih => exact WF_tkC ih n (Nat.le_refl _)
theorem WF_time {M : Nat → Int32} {n : Nat} {v : Int32} (h : WF M n) : WF (upd M 0 v) n := by
  refine h.lo (upd_ne (by decide)) (upd_ne (by decide)) (fun c hc => ?_)
  exact (h.2.2 c hc).congr (F_low (by decide)) (F_low (by decide)) (F_low (by decide)) (F_low (by decide))
theorem WF_tick {M : Nat → Int32} {n : Nat} (h : WF M n) : WF (tickM M n) n := WF_time (WF_tkP h 10)
def mv (M : Nat → Int32) (n c : Nat) : Bool := if lft M c = true then decide (¬ F M c 0 = M 1) else hasT M c && !blk M n c
def mvC (M : Nat → Int32) (n : Nat) (p : Int32) : Nat → Bool
  | 0 => false
  | j + 1 => mvC M n p j || (decide (F (tkC M n p j) j 2 = p) && mv (tkC M n p j) n j)
def mvP (M : Nat → Int32) (n : Nat) : Nat → Bool
  | 0 => false
  | k + 1 => mvP M n k || mvC (tkP M n k) n (nI (9 - k)) n
section CT
variable {X M : Nat → Int32} {n c : Nat}
theorem cToWind_e (hR : Rel X M n) (hW : WF M n) (hc : c < n) : ∃ X', fX1_turnToWind X (nI c) = some (decide (¬ F M c 0 = M 1), X') ∧ Rel X' (setF M c 0 (wnd M c)) n := by
  have hc4 := hR.lt hc
  obtain ⟨a, ha, h0⟩ := (hW.2.2 c hc).1
  obtain ⟨w, hw, h1⟩ := hW.1
  unfold fX1_turnToWind fX3_shorterWay fX3_stepsClockwise
  simp only [rd4 hc4, rdk1, wr4 hc4, hR.f hc 0 (by decide), hR.2.2.2.2.1, Option.bind_some]
  by_cases e : F M c 0 = M 1
  · rw [if_pos e]
    refine ⟨X, by simp [e], ?_⟩
    have : wnd M c = F M c 0 := by
      rw [wnd_F, ← e, h0]
      exact a_wnd1 a ha
    rw [this, setF_id]
    exact hR
  · rw [if_neg e]
    have hne : ¬ a = w := fun q => e (by rw [h0, h1, q])
    have hv := a_wnd2 a ha w hw hne
    refine ⟨upd X (ix c 0) (wnd M c), ?_, hR.set (k := 0) (wnd M c) hc (by decide)⟩
    rw [wnd_F, h0, h1]
    rw [← hv]
    have hd : decide (¬ nI a = nI w) = true := decide_eq_true (by rw [← h0, ← h1]; exact e)
    rw [hd]
    split <;> simp
theorem cTurnJib_e (hR : Rel X M n) (hW : WF M n) (hc : c < n) {fu : Nat} (hfu : 12 < fu) : ∃ X', fX1_turnJib fu X (nI c) = some (mv M n c, X') ∧ Rel X' (turn M n c) n := by
  have hc4 := hR.lt hc
  obtain ⟨XW, w1, w2⟩ := cToWind_e hR hW hc
  have hp : Rel (upd X (ix c 5) (F M c 5 + 1)) (prg M c) n := hR.set (k := 5) (F M c 5 + 1) hc (by decide)
  obtain ⟨XE, s1, s2⟩ := cEndStep_e hp hc
  have e5 : F (prg M c) c 5 = F M c 5 + 1 := F_same
  have e1 : F (prg M c) c 1 = F M c 1 := F_nk (by decide)
  unfold fX1_turnJib turn mv
  simp only [cIsLeft_e hR hc, cHasTarget_e hR hc, cBlockerOf_e hR hc hfu, rd24 hc4, wr24 hc4, rd8 hc4, rd28 hc4, wr28 hc4, hR.f hc 5 (by decide), hR.f hc 6 (by decide), hp.f hc 5 (by decide), hp.f hc 1 (by decide), e5, e1, s1, w1, Option.bind_some]
  by_cases h1 : lft M c = true
  · simp only [h1, if_true]
    exact ⟨XW, rfl, w2⟩
  · simp only [if_neg h1]
    by_cases h2 : hasT M c = true
    · simp only [h2, if_true, Bool.true_and]
      by_cases h3 : blk M n c = true
      · have h4 := (blk_iff.mp h3).2.2
        simp only [h3, if_true, if_neg h4]
        exact ⟨_, rfl, hR.set (k := 6) (F M c 6 + 1) hc (by decide)⟩
      · simp only [if_neg h3, if_true]
        have h3' : (!blk M n c) = true := by simp [h3]
        rw [h3']
        split
        · exact ⟨XE, rfl, s2⟩
        · exact ⟨_, rfl, hp⟩
    · have h3 : ¬ blk M n c = true := fun h => h2 (blk_iff.mp h).1
      simp only [if_neg h2, if_neg h3]
      have h2' : hasT M c = false := by simpa using h2
      rw [h2']
      exact ⟨X, rfl, hR⟩
theorem cPass_in (hR : Rel X M n) (hW : WF M n) {fu : Nat} (hfu : 12 < fu) (p : Int32) (b : Bool) {k : Nat} (hk : n < k) : ∃ X', lp (fX1_passTick_L11 fu p) k (X, b, (0 : Int32)) = some (.inl (X', b || mvC M n p n, p + (-1 : Int32))) ∧ Rel X' (tkC M n p n) n := by
  have hn4 := hR.1
  have hs : ∀ j, j < n → ∀ s : (Nat → Int32) × Bool × Int32, (Rel s.1 (tkC M n p j) n ∧ s.2.1 = (b || mvC M n p j) ∧ s.2.2 = nI j) → ∃ s', fX1_passTick_L11 fu p s = some (.inl s') ∧ (Rel s'.1 (tkC M n p (j + 1)) n ∧ s'.2.1 = (b || mvC M n p (j + 1)) ∧ s'.2.2 = nI (j + 1)) := by
    rintro j hj ⟨Y, bb, t⟩ ⟨q1, q2, q3⟩
    dsimp only at q1 q2 q3
    subst q2; subst q3
    have hj4 : j < 4 := by omega
    unfold fX1_passTick_L11
    simp only [rdk2, q1.2.1, rd12 hj4, q1.f hj 2 (by decide), Option.bind_some, if_neg (q_nle hj (show n < 2 ^ 31 by omega)), nI_1]
    by_cases e : F (tkC M n p j) j 2 = p
    · obtain ⟨Y', t1, t2⟩ := cTurnJib_e q1 (WF_tkC hW j (by omega)) hj hfu
      simp only [if_pos e, t1, Option.bind_some]
      have ht : tkC M n p (j + 1) = turn (tkC M n p j) n j := by
        show (if _ then _ else _) = _
        rw [if_pos e]
      by_cases m : mv (tkC M n p j) n j = true
      · simp only [m, if_true]
        exact ⟨_, rfl, by rw [ht]; exact t2, by simp [mvC, e, m], rfl⟩
      · simp only [if_neg m]
        exact ⟨_, rfl, by rw [ht]; exact t2, by simp [mvC, e, m], rfl⟩
    · simp only [if_neg e]
      have ht : tkC M n p (j + 1) = tkC M n p j := by
        show (if _ then _ else _) = _
        rw [if_neg e]
      exact ⟨_, rfl, by rw [ht]; exact q1, by simp [mvC, e], rfl⟩
  have hx : ∀ s : (Nat → Int32) × Bool × Int32, (Rel s.1 (tkC M n p n) n ∧ s.2.1 = (b || mvC M n p n) ∧ s.2.2 = nI n) → ∃ r, fX1_passTick_L11 fu p s = some (.inr r) ∧ ∃ X', r = .inl (X', b || mvC M n p n, p + (-1 : Int32)) ∧ Rel X' (tkC M n p n) n := by
    rintro ⟨Y, bb, t⟩ ⟨q1, q2, q3⟩
    dsimp only at q1 q2 q3
    subst q2; subst q3
    unfold fX1_passTick_L11
    simp only [rdk2, q1.2.1, Option.bind_some, if_pos (q_le (Nat.le_refl n) (show n < 2 ^ 31 by omega))]
    exact ⟨_, rfl, Y, rfl, q1⟩
  obtain ⟨r, h1, X', h2, h3⟩ := lp_ex (body := fX1_passTick_L11 fu p) (fun j (s : (Nat → Int32) × Bool × Int32) => Rel s.1 (tkC M n p j) n ∧ s.2.1 = (b || mvC M n p j) ∧ s.2.2 = nI j) (fun r => ∃ X', r = .inl (X', b || mvC M n p n, p + (-1 : Int32)) ∧ Rel X' (tkC M n p n) n) n hs hx n k 0 (X, b, (0 : Int32)) (by omega) hk ⟨hR, by simp [mvC], rfl⟩
  exact ⟨X', by rw [h1, h2], h3⟩
theorem Rel.time {v : Int32} (hR : Rel X M n) : Rel (upd X 0 v) (upd M 0 v) n := by
  obtain ⟨h1, h2, h3, h4, h5, h6, h7, h8, h9⟩ := hR
  refine ⟨h1, h2, h3, by rw [upd_eq, upd_eq], h5, h6, ?_, ?_, ?_⟩
  · intro j hj
    rw [upd_ne (by omega), upd_ne (by omega)]
    exact h7 j hj
  · intro c hc k hk
    have := ix_lt c (by omega) k hk
    rw [upd_ne (by omega), F_low (by decide)]
    exact h8 c hc k hk
  · intro c hc hc4 k hk4 hk
    have := ix_lt c hc4 k hk
    rw [upd_ne (by omega)]
    exact h9 c hc hc4 k hk4 hk
theorem cPass_out {fu : Nat} (hfu : 12 < fu) {M0 : Nat → Int32} (hW : WF M0 n) : ∀ (m : Nat), m ≤ 10 → ∀ (k : Nat) (Y : Nat → Int32), m < k → Rel Y (tkP M0 n (10 - m)) n → ∃ X', lp (fX1_passTick_L5 fu) k (Y, mvP M0 n (10 - m), nI m - 1) = some (mvP M0 n 10, X') ∧ Rel X' (tickM M0 n) n := by
  intro m
  induction m with
  | zero =>
    intro _ k Y hk hR
    obtain ⟨k, rfl⟩ : ∃ q, k = q + 1 := ⟨k - 1, by omega⟩
    refine ⟨upd Y 0 (tkP M0 n 10 0 + 1), lp_inr ?_, hR.time⟩
    unfold fX1_passTick_L5
    have h0 : nI 0 - 1 < (0 : Int32) := by decide
    simp only [if_pos h0, rdk0, wrk0, hR.2.2.2.1, Option.bind_some]
  | succ m ih =>
    intro hm k Y hk hR
    obtain ⟨k, rfl⟩ : ∃ q, k = q + 1 := ⟨k - 1, by omega⟩
    have hn4 := hR.1
    obtain ⟨X', h1, h2⟩ := cPass_in hR (WF_tkP hW _) hfu (nI m) (mvP M0 n (10 - (m + 1))) (k := fu) (by omega)
    have e : 10 - m = (10 - (m + 1)) + 1 := by omega
    have e2 : 9 - (10 - (m + 1)) = m := by omega
    have hb : fX1_passTick_L5 fu (Y, mvP M0 n (10 - (m + 1)), nI (m + 1) - 1) = some (.inl (X', mvP M0 n (10 - m), nI m - 1)) := by
      unfold fX1_passTick_L5
      simp only [nI_pred, if_neg (show ¬ nI m < (0 : Int32) from nI_pos (by omega))]
      rw [h1, q_m1, e]
      simp only [mvP, e2]
    rw [lp_inl hb]
    refine ih (by omega) k X' (by omega) ?_
    rw [e]
    simp only [tkP, e2]
    exact h2
theorem cPass_e (hR : Rel X M n) (hW : WF M n) {fu : Nat} (hfu : 12 < fu) : ∃ X', fX1_passTick fu X = some (mvP M n 10, X') ∧ Rel X' (tickM M n) n := cPass_out hfu hW 10 (Nat.le_refl _) fu X (by omega) hR
end CT

