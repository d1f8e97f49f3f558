/-! p35: what ticks do to a crane: its need, its wait, its steps -/
section TICKS
variable {M : Nat → Int32} {n c : Nat}
/-- the steps to a target, by a way that is one -/
def sN (w : Bool) (a t : Nat) : Nat := match w with
  | true => (t + 36 - a) % 36
  | false => (a + 36 - t) % 36
def wI (w : Bool) : Int32 := match w with
  | true => 1
  | false => -1
def aN (w : Bool) (a : Nat) : Nat := match w with
  | true => (a + 1) % 36
  | false => (a + 35) % 36
theorem wI_of {x : Int32} (h : x = 1 ∨ x = -1) : ∃ w, x = wI w := by
  rcases h with h | h
  · exact ⟨true, h⟩
  · exact ⟨false, h⟩
theorem sN_rng (w : Bool) {a t : Nat} (ha : a < 36) (ht : t < 36) (h : t ≠ a) : 1 ≤ sN w a t ∧ sN w a t ≤ 35 := by
  cases w <;> unfold sN <;> dsimp only <;> omega
theorem sN_step (w : Bool) {a t : Nat} (ha : a < 36) (ht : t < 36) (h : t ≠ a) : (aN w a = t → sN w a t = 1) ∧ (aN w a ≠ t → sN w a t = sN w (aN w a) t + 1) := by
  cases w <;> unfold sN aN <;> dsimp only <;> constructor <;> intro q <;> omega
theorem stTo_e (w : Bool) {a t : Nat} (ha : a < 36) (ht : t < 36) (h0 : F M c 0 = nI a) : stTo M c (nI t) (wI w) = nI (sN w a t) := by
  unfold stTo
  rw [h0]
  cases w
  · exact a_stm a ha t ht
  · exact a_stp a ha t ht
theorem nxt_e (w : Bool) {a : Nat} (ha : a < 36) (h0 : F M c 0 = nI a) (h4 : F M c 4 = wI w) : nxt M c = nI (aN w a) := by
  unfold nxt
  rw [h0, h4]
  cases w
  · exact a_nxm a ha
  · exact a_nxp a ha
theorem need_T (w : Bool) {a t b g : Nat} (ha : a < 36) (ht : t < 36) (hb : b ≤ 5) (hta : t ≠ a) (hg : g < b) (h0 : F M c 0 = nI a) (h1 : F M c 1 = nI b) (h3 : F M c 3 = nI t) (h4 : F M c 4 = wI w) (h5 : F M c 5 = nI g) : need M c = nI (sN w a t * b - g) ∧ g < sN w a t * b ∧ sN w a t * b ≤ 175 := by
  have hs := sN_rng w ha ht hta
  have hle : g < sN w a t * b := by
    have : 1 * b ≤ sN w a t * b := Nat.mul_le_mul_right b hs.1
    omega
  have hup : sN w a t * b ≤ 175 := by
    have : sN w a t * b ≤ 35 * 5 := Nat.mul_le_mul hs.2 hb
    omega
  refine ⟨?_, hle, hup⟩
  unfold need
  rw [if_pos (is_T ht h3), h3, h4, stTo_e w ha ht h0, h1, h5, pk_mul, pk_sub (Nat.le_of_lt hle)]
theorem need_e (h : GC M c) : ∃ N, N ≤ 175 ∧ need M c = nI N ∧ (hasT M c = true ↔ N ≠ 0) := by
  obtain ⟨a, b, p, g, h0, ha, h1, hb1, hb5, h2, hp, h5, hg, h⟩ := h
  rcases h with ⟨h3, h4, hg0, h7⟩ | ⟨t, ht, hta, h3, h4, h7⟩
  · refine ⟨0, by decide, ?_, ?_⟩
    · unfold need
      rw [no_T h3]
      rfl
    · rw [no_T h3]
      simp
  · obtain ⟨w, hw⟩ := wI_of h4
    obtain ⟨e1, e2, e3⟩ := need_T w ha ht hb5 hta hg h0 h1 h3 hw h5
    refine ⟨_, ?_, e1, ?_⟩
    · omega
    · rw [is_T ht h3]
      simp
      omega
theorem need_congr {M' : Nat → Int32} (h : ∀ k, k < 9 → k ≠ 6 → F M' c k = F M c k) : need M' c = need M c ∧ hasT M' c = hasT M c := by
  have e : hasT M' c = hasT M c := by
    unfold hasT
    rw [h 3 (by decide) (by decide)]
  refine ⟨?_, e⟩
  unfold need stTo
  rw [e, h 0 (by decide) (by decide), h 1 (by decide) (by decide), h 3 (by decide) (by decide), h 4 (by decide) (by decide), h 5 (by decide) (by decide)]
/-- a crane's turn: what becomes of what it needs, of its wait, of its steps -/
theorem tn_need (h : GC M c) (b : Bool) : (hasT M c = false → hasT (tn M c b) c = false ∨ b = true) ∧ (hasT M c = true → b = true → need (tn M c b) c = need M c ∧ F (tn M c b) c 6 = F M c 6 + 1 ∧ hasT (tn M c b) c = true) ∧ (hasT M c = true → b = false → ∃ N, need M c = nI (N + 1) ∧ N < 175 ∧ need (tn M c b) c = nI N ∧ F (tn M c b) c 6 = F M c 6) := by
  obtain ⟨a, b', p, g, h0, ha, h1, hb1, hb5, h2, hp, h5, hg, h⟩ := h
  rcases h with ⟨h3, h4, hg0, h7⟩ | ⟨t, ht, hta, h3, h4, h7⟩
  · have hT := no_T h3
    rw [hT]
    refine ⟨fun _ => ?_, fun q => absurd q (by decide), fun q => absurd q (by decide)⟩
    cases b with
    | true => exact Or.inr rfl
    | false =>
      left
      unfold tn
      split
      · exact no_T (by rw [F_nk (by decide)]; exact h3)
      · rw [if_neg (by decide), if_neg (by rw [hT]; decide)]
        exact hT
  · have hT := is_T ht h3
    have hl := no_L h7
    obtain ⟨w, hw⟩ := wI_of h4
    obtain ⟨e1, e2, e3⟩ := need_T w ha ht hb5 hta hg h0 h1 h3 hw h5
    rw [hT]
    refine ⟨fun q => absurd q (by decide), fun _ hb => ?_, fun _ hb => ?_⟩
    · have et : tn M c b = setF M c 6 (F M c 6 + 1) := by
        unfold tn
        rw [if_neg (by rw [hl]; decide), if_pos hb]
      rw [et]
      obtain ⟨q1, q2⟩ := need_congr (M := M) (M' := setF M c 6 (F M c 6 + 1)) (c := c) (fun k _ h6 => F_nk h6)
      exact ⟨q1, F_same, q2.trans hT⟩
    · by_cases e : F M c 5 + 1 = F M c 1
      · have et : tn M c b = stp (prg M c) c := by
          unfold tn
          rw [if_neg (by rw [hl]; decide), if_neg (by rw [hb]; decide), if_pos hT, if_pos e]
        have hgb : g + 1 = b' := by
          rw [h5, h1, nI_1] at e
          exact (nI_eq (by omega) (by omega)).mp e
        have hs := sN_step w ha ht hta
        have hn := nxt_e w ha h0 hw
        have ha' : aN w a < 36 := by cases w <;> exact Nat.mod_lt _ (by decide)
        rw [et]
        by_cases q : aN w a = t
        · have en : nxt M c = F M c 3 := by rw [hn, h3, q]
          have s1 := hs.1 q
          refine ⟨0, ?_, by decide, ?_, by rw [stpP_F, if_pos en]; rfl⟩
          · rw [e1, s1]
            congr 1
            omega
          · unfold need
            rw [no_T (by rw [stpP_F, if_pos en]; rfl)]
            rfl
        · have en : ¬ nxt M c = F M c 3 := by
            rw [hn, h3]
            exact q_ne q (by omega) (by omega)
          have s1 := hs.2 q
          obtain ⟨f1, f2, f3⟩ := need_T (M := stp (prg M c) c) (c := c) w (a := aN w a) (t := t) (b := b') (g := 0) ha' ht hb5 (Ne.symm q) (by omega) (by rw [stpP_F, if_neg en]; exact hn) (by rw [stpP_F, if_neg en]; exact h1) (by rw [stpP_F, if_neg en]; exact h3) (by rw [stpP_F, if_neg en]; exact hw) (by rw [stpP_F, if_neg en]; rfl)
          refine ⟨sN w (aN w a) t * b', ?_, ?_, f1, by rw [stpP_F, if_neg en]; rfl⟩
          · rw [e1, s1, Nat.succ_mul]
            congr 1
            omega
          · rw [s1, Nat.succ_mul] at e3
            omega
      · have et : tn M c b = prg M c := by
          unfold tn
          rw [if_neg (by rw [hl]; decide), if_neg (by rw [hb]; decide), if_pos hT, if_neg e]
        have hgb : ¬ g + 1 = b' := fun q => e (by rw [h5, h1, nI_1, q])
        obtain ⟨f1, f2, f3⟩ := need_T (M := prg M c) (c := c) w (a := a) (t := t) (b := b') (g := g + 1) ha ht hb5 hta (by omega) (by rw [prg_F]; exact h0) (by rw [prg_F]; exact h1) (by rw [prg_F]; exact h3) (by rw [prg_F]; exact hw) (by rw [prg_F, if_pos rfl, h5, nI_1])
        rw [et]
        refine ⟨sN w a t * b' - (g + 1), ?_, by omega, f1, by rw [prg_F]; rfl⟩
        rw [e1]
        congr 1
        omega
theorem tn_wait0 (h : hasT M c = false) : F (tn M c false) c 6 = F M c 6 := by
  unfold tn
  split
  · exact F_nk (by decide)
  · rw [if_neg (by decide), if_neg (by rw [h]; decide)]
theorem tn_steps (b : Bool) : F (tn M c b) c 7 = F M c 7 ∧ ((F (tn M c b) c 8 = F M c 8 ∧ (lft M c = false → F (tn M c b) c 0 = F M c 0)) ∨ F (tn M c b) c 8 = F M c 8 + 1) := by
  unfold tn
  split
  · rename_i hl
    exact ⟨F_nk (by decide), Or.inl ⟨F_nk (by decide), fun q => by rw [hl] at q; cases q⟩⟩
  · split
    · exact ⟨F_nk (by decide), Or.inl ⟨F_nk (by decide), fun _ => F_nk (by decide)⟩⟩
    · split
      · split
        · refine ⟨by rw [stpP_F]; split <;> rfl, Or.inr (by rw [stpP_F]; split <;> rfl)⟩
        · exact ⟨F_nk (by decide), Or.inl ⟨F_nk (by decide), fun _ => F_nk (by decide)⟩⟩
      · exact ⟨rfl, Or.inl ⟨rfl, fun _ => rfl⟩⟩
/-- one tick, for one crane -/
theorem tick_tn (hG : GD M n) (hc : c < n) : ∃ b : Bool, (b = true → hasT M c = true) ∧ (∀ k, k < 21 → F (tickM M n) c k = F (tn M c b) c k) ∧ ((∀ z, z < 6 → F M c (9 + 2 * z) = -100) → b = false) := by
  obtain ⟨a, b', p, g, h0, ha, h1, hb1, hb5, h2, hp, h5, hg, h⟩ := hG.2.2 c hc
  obtain ⟨T, t1, t2, t3⟩ := tick_own (M := M) hp hc h2
  refine ⟨blk T n c, fun hb => ?_, fun k hk => ?_, fun hz => ?_⟩
  · have := (blk_iff.mp hb).1
    unfold hasT at this ⊢
    rw [t1 3 (by decide)] at this
    exact this
  · rw [t3 k hk, turn_tn]
    exact tn_congr t1 t2 _ hk
  · cases hb : blk T n c with
    | false => rfl
    | true =>
      exfalso
      apply (blk_iff.mp hb).2.2
      refine lowf_none (fun o _ ho => ?_)
      obtain ⟨-, z, hz6, q, -⟩ := iwP_iff.mp ho
      unfold cont at q
      rw [t1 _ (by omega), if_pos (hz z hz6)] at q
      cases q
theorem tick_mono (hG : GD M n) (hc : c < n) (h : hasT M c = false) : hasT (tickM M n) c = false := by
  obtain ⟨b, b1, b2, -⟩ := tick_tn hG hc
  have hb : b = false := by
    cases b with
    | false => rfl
    | true => rw [b1 rfl] at h; cases h
  subst hb
  have := (tn_need (hG.2.2 c hc) false).1 h
  rcases this with q | q
  · unfold hasT at q ⊢
    rw [b2 3 (by decide)]
    exact q
  · cases q
theorem it_mono (hG : GD M n) (hc : c < n) {i : Nat} : ∀ d, hasT (itM M n i) c = false → hasT (itM M n (i + d)) c = false := by
  intro d
  induction d with
  | zero => exact fun h => h
  | succ d ih => exact fun h => tick_mono (GD_it hG _) hc (ih h)
theorem it_need (hG : GD M n) (hc : c < n) {N0 : Nat} (h0 : need M c = nI N0) (hN0 : N0 ≤ 175) : ∀ i, ∃ w N, w ≤ i ∧ N ≤ N0 ∧ F (itM M n i) c 6 = F M c 6 + nI w ∧ need (itM M n i) c = nI N ∧ ((∀ j, j < i → hasT (itM M n j) c = true) → w + (N0 - N) = i) := by
  intro i
  induction i with
  | zero => exact ⟨0, N0, Nat.le_refl _, Nat.le_refl _, by rw [nI_0, Int32.add_zero]; rfl, h0, fun _ => by omega⟩
  | succ i ih =>
    obtain ⟨w, N, hw, hN, e6, eN, hs⟩ := ih
    have hGi := GD_it hG i
    obtain ⟨b, b1, b2, -⟩ := tick_tn hGi hc
    obtain ⟨q1, q2⟩ := need_congr (M := tn (itM M n i) c b) (M' := itM M n (i + 1)) (c := c) (fun k hk _ => b2 k (by omega))
    have q6 : F (itM M n (i + 1)) c 6 = F (tn (itM M n i) c b) c 6 := b2 6 (by decide)
    obtain ⟨t1, t2, t3⟩ := tn_need (hGi.2.2 c hc) b
    cases hT : hasT (itM M n i) c with
    | false =>
      have hb : b = false := by
        cases b with
        | false => rfl
        | true => rw [b1 rfl] at hT; cases hT
      subst hb
      obtain ⟨N', hN', eN', hz⟩ := need_e (hGi.2.2 c hc)
      have hzz : N = 0 := by
        have e : nI N = nI N' := eN.symm.trans eN'
        have : N = N' := (nI_eq (by omega) (by omega)).mp e
        have h2 : ¬ N' ≠ 0 := fun z => by rw [hz.mpr z] at hT; cases hT
        omega
      refine ⟨w, 0, by omega, by omega, by rw [q6, tn_wait0 hT, e6], ?_, fun h => ?_⟩
      · have := t1 hT
        rcases this with z | z
        · rw [q1]
          unfold need
          rw [z]
          rfl
        · cases z
      · rw [h i (by omega)] at hT
        cases hT
    | true =>
      cases b with
      | true =>
        obtain ⟨z1, z2, z3⟩ := t2 hT rfl
        refine ⟨w + 1, N, by omega, hN, by rw [q6, z2, e6, nI_succ, Int32.add_assoc], by rw [q1, z1, eN], fun h => ?_⟩
        have := hs (fun j hj => h j (by omega))
        omega
      | false =>
        obtain ⟨N', z1, z2, z3, z4⟩ := t3 hT rfl
        have hNN : N = N' + 1 := (nI_eq (by omega) (by omega)).mp (eN.symm.trans z1)
        refine ⟨w, N', by omega, by omega, by rw [q6, z4, e6], by rw [q1, z3], fun h => ?_⟩
        have := hs (fun j hj => h j (by omega))
        omega
theorem it_steps (hG : GD M n) (hc : c < n) : ∀ i, ∃ k, k ≤ i ∧ F (itM M n i) c 8 = F M c 8 + nI k ∧ F (itM M n i) c 7 = F M c 7 ∧ (k = 0 → lft M c = false → F (itM M n i) c 0 = F M c 0) := by
  intro i
  induction i with
  | zero => exact ⟨0, Nat.le_refl _, by rw [nI_0, Int32.add_zero]; rfl, rfl, fun _ _ => rfl⟩
  | succ i ih =>
    obtain ⟨k, hk, e8, e7, e0⟩ := ih
    obtain ⟨b, b1, b2, -⟩ := tick_tn (GD_it hG i) hc
    obtain ⟨s1, s2⟩ := tn_steps (M := itM M n i) (c := c) b
    have q8 : F (itM M n (i + 1)) c 8 = F (tn (itM M n i) c b) c 8 := b2 8 (by decide)
    have q7 : F (itM M n (i + 1)) c 7 = F (tn (itM M n i) c b) c 7 := b2 7 (by decide)
    have q0 : F (itM M n (i + 1)) c 0 = F (tn (itM M n i) c b) c 0 := b2 0 (by decide)
    have el : lft (itM M n i) c = lft M c := by unfold lft; rw [e7]
    rcases s2 with ⟨z1, z2⟩ | z1
    · exact ⟨k, by omega, by rw [q8, z1, e8], by rw [q7, s1, e7], fun hk0 hl => by rw [q0, z2 (by rw [el]; exact hl), e0 hk0 hl]⟩
    · exact ⟨k + 1, by omega, by rw [q8, z1, e8, nI_succ, Int32.add_assoc], by rw [q7, s1, e7], fun hk0 => by omega⟩
theorem vf_spec (M : Nat → Int32) (n : Nat) (g : (Nat → Int32) → Bool) : ∀ (r i : Nat), (∃ k, i ≤ k ∧ k ≤ i + r ∧ vf M n g i r = nI k ∧ g (itM M n k) = false ∧ ∀ j, i ≤ j → j < k → g (itM M n j) = true) ∨ (vf M n g i r = -100 ∧ ∀ j, i ≤ j → j ≤ i + r → g (itM M n j) = true) := by
  intro r
  induction r with
  | zero =>
    intro i
    unfold vf
    by_cases h : g (itM M n i) = true
    · rw [if_pos h]
      refine Or.inr ⟨rfl, fun j h1 h2 => ?_⟩
      rw [show j = i by omega]
      exact h
    · rw [if_neg h]
      exact Or.inl ⟨i, by omega, by omega, rfl, by simpa using h, fun j h1 h2 => by omega⟩
  | succ r ih =>
    intro i
    unfold vf
    by_cases h : g (itM M n i) = true
    · rw [if_pos h]
      rcases ih (i + 1) with ⟨k, k1, k2, k3, k4, k5⟩ | ⟨k1, k2⟩
      · refine Or.inl ⟨k, by omega, by omega, k3, k4, fun j h1 h2 => ?_⟩
        by_cases e : j = i
        · rw [e]; exact h
        · exact k5 j (by omega) h2
      · refine Or.inr ⟨k1, fun j h1 h2 => ?_⟩
        by_cases e : j = i
        · rw [e]; exact h
        · exact k2 j (by omega) (by omega)
    · rw [if_neg h]
      exact Or.inl ⟨i, by omega, by omega, rfl, by simpa using h, fun j h1 h2 => by omega⟩
end TICKS
