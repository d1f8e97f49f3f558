/-! p35: what holds of every state of a run; a crane's turn -/
def GC (M : Nat → Int32) (c : Nat) : Prop := ∃ a b p g : Nat, F M c 0 = nI a ∧ a < 36 ∧ F M c 1 = nI b ∧ 1 ≤ b ∧ b ≤ 5 ∧ F M c 2 = nI p ∧ p ≤ 9 ∧ F M c 5 = nI g ∧ g < b ∧ ((F M c 3 = -100 ∧ F M c 4 = 0 ∧ g = 0 ∧ (F M c 7 = 0 ∨ F M c 7 = 1)) ∨ ∃ t, t < 36 ∧ t ≠ a ∧ F M c 3 = nI t ∧ (F M c 4 = 1 ∨ F M c 4 = -1) ∧ F M c 7 = 0)
def GD (M : Nat → Int32) (n : Nat) : Prop := (∃ w, w < 36 ∧ M 1 = nI w) ∧ (∃ k, k ≤ 10 ∧ M 3 = nI k) ∧ ∀ c, c < n → GC M c
theorem nI_m100 : ∀ t, t < 36 → ¬ nI t = (-100 : Int32) := by decide +kernel
theorem GC_wfc {M : Nat → Int32} {c : Nat} (h : GC M c) : WFC M c := by
  obtain ⟨a, b, p, g, h0, ha, h1, hb1, hb5, h2, hp, h5, hg, h⟩ := h
  rcases h with ⟨h3, h4, -, h7⟩ | ⟨t, ht, -, h3, h4, h7⟩
  · exact ⟨⟨a, ha, h0⟩, Or.inl h3, Or.inl h4, Or.inl h3, h7⟩
  · refine ⟨⟨a, ha, h0⟩, Or.inr ⟨t, ht, h3⟩, Or.inr h4, Or.inr ?_, Or.inl h7⟩
    rcases h4 with q | q <;> rw [q] <;> decide
theorem GD_wf {M : Nat → Int32} {n : Nat} (h : GD M n) : WF M n := ⟨h.1, h.2.1, fun c hc => GC_wfc (h.2.2 c hc)⟩
theorem GC_congr {M M' : Nat → Int32} {c : Nat} (h : GC M c) (e : ∀ k, k < 21 → k ≠ 6 → k ≠ 8 → k < 9 → F M' c k = F M c k) : GC M' c := by
  unfold GC
  rw [e 0 (by decide) (by decide) (by decide) (by decide), e 1 (by decide) (by decide) (by decide) (by decide), e 2 (by decide) (by decide) (by decide) (by decide), e 3 (by decide) (by decide) (by decide) (by decide), e 4 (by decide) (by decide) (by decide) (by decide), e 5 (by decide) (by decide) (by decide) (by decide), e 7 (by decide) (by decide) (by decide) (by decide)]
  exact h
theorem F_set {M : Nat → Int32} {c k k' : Nat} {v : Int32} : F (setF M c k v) c k' = if k' = k then v else F M c k' := by
  by_cases e : k' = k
  · subst e
    rw [F_same, if_pos rfl]
  · rw [F_nk e, if_neg e]
def tn (M : Nat → Int32) (c : Nat) (b : Bool) : Nat → Int32 := if lft M c = true then setF M c 0 (wnd M c) else if b = true then setF M c 6 (F M c 6 + 1) else if hasT M c = true then (if F M c 5 + 1 = F M c 1 then stp (prg M c) c else prg M c) else M
theorem turn_tn {M : Nat → Int32} {n c : Nat} : turn M n c = tn M c (blk M n c) := rfl
section OWN
variable {M : Nat → Int32} {n c : Nat}
theorem prg_F {k : Nat} : F (prg M c) c k = if k = 5 then F M c 5 + 1 else F M c k := F_set
theorem nxt_prg : nxt (prg M c) c = nxt M c := by
  unfold nxt
  rw [prg_F, prg_F, if_neg (by decide), if_neg (by decide)]
theorem stp_F {k : Nat} : F (stp M c) c k = if nxt M c = F M c 3 then (if k = 4 then 0 else if k = 3 then -100 else if k = 8 then F M c 8 + 1 else if k = 5 then 0 else if k = 0 then nxt M c else F M c k) else (if k = 8 then F M c 8 + 1 else if k = 5 then 0 else if k = 0 then nxt M c else F M c k) := by
  unfold stp
  by_cases e : nxt M c = F M c 3
  · rw [if_pos e, if_pos e]
    unfold noT stp3
    rw [F_set, F_set, F_set, F_set, F_set]
  · rw [if_neg e, if_neg e]
    unfold stp3
    rw [F_set, F_set, F_set]
theorem stpP_F {k : Nat} : F (stp (prg M c) c) c k = if nxt M c = F M c 3 then (if k = 4 then 0 else if k = 3 then -100 else if k = 8 then F M c 8 + 1 else if k = 5 then 0 else if k = 0 then nxt M c else F M c k) else (if k = 8 then F M c 8 + 1 else if k = 5 then 0 else if k = 0 then nxt M c else F M c k) := by
  rw [stp_F, nxt_prg, prg_F, prg_F, prg_F, if_neg (show ¬ 3 = 5 by decide), if_neg (show ¬ 8 = 5 by decide)]
  by_cases e : k = 5
  · subst e
    simp
  · simp only [if_neg e]
theorem wnd_rng {w : Nat} (hw : w < 36) (h1 : M 1 = nI w) {a : Nat} (ha : a < 36) (h0 : F M c 0 = nI a) : ∃ b, b < 36 ∧ wnd M c = nI b := by
  rw [wnd_F, h0, h1]
  exact of_toInt (a_wnd3 a ha w hw) (by decide)
theorem a_nxp : ∀ a, a < 36 → jrem ((nI a + (1 : Int32)) + (36 : Int32)) (36 : Int32) = nI ((a + 1) % 36) := by decide +kernel
theorem a_nxm : ∀ a, a < 36 → jrem ((nI a + (-1 : Int32)) + (36 : Int32)) (36 : Int32) = nI ((a + 35) % 36) := by decide +kernel
theorem a_stp : ∀ a, a < 36 → ∀ t, t < 36 → jrem (((1 : Int32) * (nI t - nI a)) + (36 : Int32)) (36 : Int32) = nI ((t + 36 - a) % 36) := by decide +kernel
theorem a_stm : ∀ a, a < 36 → ∀ t, t < 36 → jrem (((-1 : Int32) * (nI t - nI a)) + (36 : Int32)) (36 : Int32) = nI ((a + 36 - t) % 36) := by decide +kernel
theorem lft_1 : lft M c = true ↔ F M c 7 = 1 := lft_iff.symm
theorem no_T (h : F M c 3 = -100) : hasT M c = false := by
  unfold hasT
  rw [if_pos h]
theorem is_T {t : Nat} (ht : t < 36) (h : F M c 3 = nI t) : hasT M c = true := hasT_iff.mpr (by rw [h]; exact nI_m100 t ht)
theorem no_L (h : F M c 7 = 0) : lft M c = false := by
  unfold lft
  rw [if_neg (by rw [h]; decide)]
/-- what a crane is like after its turn -/
theorem GC_tn (h : GC M c) (hw : ∃ w, w < 36 ∧ M 1 = nI w) (b : Bool) : GC (tn M c b) c := by
  have h' := h
  obtain ⟨a, b', p, g, h0, ha, h1, hb1, hb5, h2, hp, h5, hg, h⟩ := h
  obtain ⟨w, hw, hw1⟩ := hw
  unfold tn
  by_cases hl : lft M c = true
  · rw [if_pos hl]
    obtain ⟨d, hd, hd2⟩ := wnd_rng hw hw1 ha h0
    rcases h with ⟨h3, h4, hg0, h7⟩ | ⟨t, ht, hta, h3, h4, h7⟩
    · refine ⟨d, b', p, g, by rw [F_same]; exact hd2, hd, by rw [F_nk (by decide)]; exact h1, hb1, hb5, by rw [F_nk (by decide)]; exact h2, hp, by rw [F_nk (by decide)]; exact h5, hg, Or.inl ⟨by rw [F_nk (by decide)]; exact h3, by rw [F_nk (by decide)]; exact h4, hg0, by rw [F_nk (by decide)]; exact h7⟩⟩
    · rw [no_L h7] at hl
      cases hl
  · rw [if_neg hl]
    by_cases hb : b = true
    · rw [if_pos hb]
      exact GC_congr h' (fun k _ h6 _ _ => F_nk h6)
    · rw [if_neg hb]
      by_cases hT : hasT M c = true
      · rw [if_pos hT]
        rcases h with ⟨h3, h4, hg0, h7⟩ | ⟨t, ht, hta, h3, h4, h7⟩
        · rw [no_T h3] at hT
          cases hT
        · have hn : ∃ d, d < 36 ∧ nxt M c = nI d := nxt_rng (GC_wfc h')
          obtain ⟨d, hd, hd2⟩ := hn
          by_cases e : F M c 5 + 1 = F M c 1
          · rw [if_pos e]
            by_cases e2 : nxt M c = F M c 3
            · refine ⟨d, b', p, 0, by rw [stpP_F, if_pos e2]; exact hd2, hd, by rw [stpP_F, if_pos e2]; exact h1, hb1, hb5, by rw [stpP_F, if_pos e2]; exact h2, hp, by rw [stpP_F, if_pos e2]; rfl, by omega, Or.inl ⟨by rw [stpP_F, if_pos e2]; rfl, by rw [stpP_F, if_pos e2]; rfl, rfl, by rw [stpP_F, if_pos e2]; exact Or.inl h7⟩⟩
            · refine ⟨d, b', p, 0, by rw [stpP_F, if_neg e2]; exact hd2, hd, by rw [stpP_F, if_neg e2]; exact h1, hb1, hb5, by rw [stpP_F, if_neg e2]; exact h2, hp, by rw [stpP_F, if_neg e2]; rfl, by omega, Or.inr ⟨t, ht, ?_, by rw [stpP_F, if_neg e2]; exact h3, by rw [stpP_F, if_neg e2]; exact h4, by rw [stpP_F, if_neg e2]; exact h7⟩⟩
              intro q
              apply e2
              rw [hd2, h3, q]
          · rw [if_neg e]
            refine ⟨a, b', p, g + 1, by rw [prg_F]; exact h0, ha, by rw [prg_F]; exact h1, hb1, hb5, by rw [prg_F]; exact h2, hp, by rw [prg_F, if_pos rfl, h5, nI_1], ?_, Or.inr ⟨t, ht, hta, by rw [prg_F]; exact h3, by rw [prg_F]; exact h4, by rw [prg_F]; exact h7⟩⟩
            have : ¬ g + 1 = b' := fun q => e (by rw [h5, h1, nI_1, q])
            omega
      · rw [if_neg hT]
        exact h'
theorem GD_turn (h : GD M n) (hc : c < n) : GD (turn M n c) n := by
  refine ⟨by rw [turn_lo (by decide)]; exact h.1, by rw [turn_lo (by decide)]; exact h.2.1, fun c' hc' => ?_⟩
  by_cases e : c' = c
  · subst e
    rw [turn_tn]
    exact GC_tn (h.2.2 c' hc') h.1 _
  · exact GC_congr (h.2.2 c' hc') (fun k hk _ _ _ => turn_Fne e hk)
theorem GD_tkC (h : GD M n) (p : Int32) (j : Nat) (hj : j ≤ n) : GD (tkC M n p j) n := by
  induction j with
  | zero => exact h
  | succ j ih =>
    unfold tkC
    split
    · exact GD_turn (ih (by omega)) (by omega)
    · exact ih (by omega)
theorem GD_tkP (h : GD M n) (k : Nat) : GD (tkP M n k) n := by
  induction k with
  | zero => exact h
  | succ k ih => exact GD_tkC ih _ n (Nat.le_refl _)
theorem GD_time {v : Int32} (h : GD M n) : GD (upd M 0 v) n := ⟨by rw [upd_ne (by decide)]; exact h.1, by rw [upd_ne (by decide)]; exact h.2.1, fun c hc => GC_congr (h.2.2 c hc) (fun _ _ _ _ _ => F_low (by decide))⟩
theorem GD_tick (h : GD M n) : GD (tickM M n) n := GD_time (GD_tkP h 10)
theorem GD_it (h : GD M n) (i : Nat) : GD (itM M n i) n := by
  induction i with
  | zero => exact h
  | succ i ih => exact GD_tick ih
/-! a crane's own turn in a tick -/
theorem tkC_before {p : Int32} {k : Nat} (hk : k < 21) : ∀ j, j ≤ c → F (tkC M n p j) c k = F M c k := by
  intro j
  induction j with
  | zero => intro _; rfl
  | succ j ih =>
    intro hj
    unfold tkC
    split
    · rw [turn_Fne (by omega) hk]
      exact ih (by omega)
    · exact ih (by omega)
theorem tkC_after {p : Int32} {k : Nat} (hk : k < 21) : ∀ j, F (tkC M n p (c + 1 + j)) c k = F (tkC M n p (c + 1)) c k := by
  intro j
  induction j with
  | zero => rfl
  | succ j ih =>
    show F (if _ then _ else _) c k = _
    split
    · exact (turn_Fne (show c ≠ c + 1 + j by omega) hk).trans ih
    · exact ih
theorem tkC_ne {p : Int32} (hc : c < n) (hp : ¬ F M c 2 = p) {k : Nat} (hk : k < 21) : F (tkC M n p n) c k = F M c k := by
  have h := tkC_after (M := M) (n := n) (c := c) (p := p) hk (n - (c + 1))
  rw [show c + 1 + (n - (c + 1)) = n by omega] at h
  rw [h]
  show F (if _ then _ else _) c k = _
  rw [if_neg (by rw [tkC_before (by decide) c (Nat.le_refl _)]; exact hp)]
  exact tkC_before hk c (Nat.le_refl _)
theorem tkC_own {p : Int32} (hc : c < n) (hp : F M c 2 = p) : ∃ T : Nat → Int32, (∀ k, k < 21 → F T c k = F M c k) ∧ T 1 = M 1 ∧ ∀ k, k < 21 → F (tkC M n p n) c k = F (turn T n c) c k := by
  refine ⟨tkC M n p c, fun k hk => tkC_before hk c (Nat.le_refl _), tkC_lo (by decide) c, fun k hk => ?_⟩
  have h := tkC_after (M := M) (n := n) (c := c) (p := p) hk (n - (c + 1))
  rw [show c + 1 + (n - (c + 1)) = n by omega] at h
  rw [h]
  show F (if _ then _ else _) c k = _
  rw [if_pos (by rw [tkC_before (by decide) c (Nat.le_refl _)]; exact hp)]
theorem tn_2 (b : Bool) : F (tn M c b) c 2 = F M c 2 := by
  unfold tn
  split
  · exact F_nk (by decide)
  · split
    · exact F_nk (by decide)
    · split
      · split
        · rw [stpP_F]
          split <;> rfl
        · exact F_nk (by decide)
      · rfl
theorem tick_own {p : Nat} (hp9 : p ≤ 9) (hc : c < n) (hp : F M c 2 = nI p) : ∃ T : Nat → Int32, (∀ k, k < 21 → F T c k = F M c k) ∧ T 1 = M 1 ∧ ∀ k, k < 21 → F (tickM M n) c k = F (turn T n c) c k := by
  have hb : ∀ q, q ≤ 9 - p → ∀ k, k < 21 → F (tkP M n q) c k = F M c k := by
    intro q
    induction q with
    | zero => intro _ k _; rfl
    | succ q ih =>
      intro hq k hk
      show F (tkC (tkP M n q) n (nI (9 - q)) n) c k = _
      rw [tkC_ne hc (by rw [ih (by omega) 2 (by decide), hp]; exact q_ne (by omega) (by omega) (by omega)) hk]
      exact ih (by omega) k hk
  obtain ⟨T, t1, t2, t3⟩ := tkC_own (M := tkP M n (9 - p)) (n := n) (c := c) (p := nI p) hc (by rw [hb _ (Nat.le_refl _) 2 (by decide)]; exact hp)
  have e1 : tkP M n (9 - p + 1) = tkC (tkP M n (9 - p)) n (nI p) n := by
    show tkC (tkP M n (9 - p)) n (nI (9 - (9 - p))) n = _
    rw [show 9 - (9 - p) = p by omega]
  have ha : ∀ q, 9 - p + 1 + q ≤ 10 → ∀ k, k < 21 → F (tkP M n (9 - p + 1 + q)) c k = F (turn T n c) c k := by
    intro q
    induction q with
    | zero =>
      intro _ k hk
      show F (tkP M n (9 - p + 1)) c k = _
      rw [e1]
      exact t3 k hk
    | succ q ih =>
      intro hq k hk
      show F (tkC (tkP M n (9 - p + 1 + q)) n (nI (9 - (9 - p + 1 + q))) n) c k = _
      have h2 : F (tkP M n (9 - p + 1 + q)) c 2 = nI p := by
        rw [ih (by omega) 2 (by decide), turn_tn, tn_2, t1 2 (by decide), hb _ (Nat.le_refl _) 2 (by decide)]
        exact hp
      rw [tkC_ne hc (by rw [h2]; exact q_ne (by omega) (by omega) (by omega)) hk]
      exact ih (by omega) k hk
  refine ⟨T, fun k hk => by rw [t1 k hk, hb _ (Nat.le_refl _) k hk], by rw [t2, tkP_lo (by decide)], fun k hk => ?_⟩
  unfold tickM
  rw [F_low (by decide)]
  have h := ha p (by omega) k hk
  rw [show 9 - p + 1 + p = 10 by omega] at h
  exact h
theorem tn_congr {T : Nat → Int32} (h : ∀ k, k < 21 → F T c k = F M c k) (h1 : T 1 = M 1) (b : Bool) {k : Nat} (hk : k < 21) : F (tn T c b) c k = F (tn M c b) c k := by
  have el : lft T c = lft M c := by unfold lft; rw [h 7 (by decide)]
  have eT : hasT T c = hasT M c := by unfold hasT; rw [h 3 (by decide)]
  have ew : wnd T c = wnd M c := by rw [wnd_F, wnd_F, h 0 (by decide), h1]
  have en : nxt T c = nxt M c := by unfold nxt; rw [h 0 (by decide), h 4 (by decide)]
  unfold tn
  rw [el, eT, h 5 (by decide), h 1 (by decide)]
  split
  · rw [F_set, F_set, ew, h k hk]
  · split
    · rw [F_set, F_set, h 6 (by decide), h k hk]
    · split
      · split
        · rw [stpP_F, stpP_F, en, h 3 (by decide), h 8 (by decide), h k hk]
        · rw [prg_F, prg_F, h 5 (by decide), h k hk]
      · exact h k hk
end OWN
