/-! p35: no zone has two; arcs, occupants, blockers, cycles fit -/
def NC (M : Nat → Int32) (n : Nat) : Prop := ∀ z, z < 6 → ∀ c, c < n → ∀ d, d < n → occ M c z = true → occ M d z = true → c = d
theorem tb16 : ∀ k, k < 16 → ((nI k &&& (nI k - (1 : Int32))) = (0 : Int32) ↔ ∀ i, i < 4 → ∀ j, j < 4 → k.testBit i = true → k.testBit j = true → i = j) := by decide +kernel
theorem sb64 : ∀ m, m < 64 → ∀ z, z < 6 → ((jshr (nI m) (nI z) &&& (1 : Int32)) = (1 : Int32) ↔ m.testBit z = true) := by decide +kernel
theorem msk_tst (p : Nat → Bool) {n z : Nat} (hn : n ≤ 6) (hz : z < n) : (jshr (msk p n) (nI z) &&& (1 : Int32)) = (1 : Int32) ↔ p z = true := by
  unfold msk
  rw [sb64 _ (mskN_small p n hn) z (by omega), mskN_bit]
  simp [hz]
section SND
variable {M : Nat → Int32} {n c : Nat}
theorem cnf_iff {z : Nat} (hn : n ≤ 4) : cnf M n z = false ↔ ∀ c, c < n → ∀ d, d < n → occ M c z = true → occ M d z = true → c = d := by
  have hlt : mskN (fun c => occ M c z) n < 16 := Nat.lt_of_lt_of_le (mskN_lt _ n) (Nat.pow_le_pow_right (n := 2) (by decide) hn)
  have h := tb16 _ hlt
  unfold cnf msk
  rw [decide_eq_false_iff_not, Classical.not_not, h]
  constructor
  · intro q c hc d hd h1 h2
    exact q c (by omega) d (by omega) (by rw [mskN_bit]; simp [hc, h1]) (by rw [mskN_bit]; simp [hd, h2])
  · intro q i _ j _ h1 h2
    rw [mskN_bit] at h1 h2
    simp at h1 h2
    exact q i h1.1 j h2.1 h1.2 h2.2
theorem NC_cnf (hn : n ≤ 4) (h : NC M n) {z : Nat} (hz : z < 6) : cnf M n z = false := (cnf_iff hn).mpr (h z hz)
theorem cont_cg {M' : Nat → Int32} {z : Nat} (h : ∀ k, 9 ≤ k → k < 21 → F M' c k = F M c k) (hz : z < 6) (a : Int32) : cont M' c z a = cont M c z a := by
  unfold cont
  rw [h (9 + 2 * z) (by omega) (by omega), h (9 + 2 * z + 1) (by omega) (by omega)]
theorem hasA_cg {M' : Nat → Int32} {z : Nat} (h : ∀ k, 9 ≤ k → k < 21 → F M' c k = F M c k) (hz : z < 6) : hasA M' c z = hasA M c z := by
  unfold hasA
  rw [h (9 + 2 * z) (by omega) (by omega)]
theorem occ_hasA {z : Nat} (h : occ M c z = true) : hasA M c z = true := by
  unfold occ at h
  rw [Bool.or_eq_true, Bool.or_eq_true, Bool.and_eq_true, Bool.and_eq_true] at h
  rcases h with h | ⟨-, h⟩ | ⟨-, h⟩
  · exact cont_hasA h
  · exact cont_hasA h
  · exact h
theorem lowf_val (P : Nat → Bool) : ∀ (n : Nat) (d : Int32), (lowf P n d = d ∧ ∀ k, k < n → ¬ P k = true) ∨ ∃ k, k < n ∧ P k = true ∧ lowf P n d = nI k := by
  intro n
  induction n with
  | zero => exact fun d => Or.inl ⟨rfl, fun k hk => absurd hk (by omega)⟩
  | succ n ih =>
    intro d
    unfold lowf
    by_cases h : P n = true
    · rw [if_pos h]
      rcases ih (nI n) with ⟨e, -⟩ | ⟨k, k1, k2, k3⟩
      · exact Or.inr ⟨n, by omega, h, e⟩
      · exact Or.inr ⟨k, by omega, k2, k3⟩
    · rw [if_neg h]
      rcases ih d with ⟨e, e2⟩ | ⟨k, k1, k2, k3⟩
      · refine Or.inl ⟨e, fun k hk => ?_⟩
        by_cases q : k = n
        · rw [q]; exact h
        · exact e2 k (by omega)
      · exact Or.inr ⟨k, by omega, k2, k3⟩
theorem m100_4 : ∀ o, o < 4 → ¬ nI o = (-100 : Int32) := by decide
theorem inw_free (hn : n ≤ 4) (h : inw M n c = -100) {o : Nat} (ho : o < n) : ¬ iwP M c o = true := by
  unfold inw at h
  rcases lowf_val (iwP M c) n (-100) with ⟨-, e⟩ | ⟨k, k1, k2, k3⟩
  · exact e o ho
  · rw [k3] at h
    exact absurd h (m100_4 k (by omega))
theorem inw_val (hn : n ≤ 4) {o : Nat} (ho : o < n) (h : inw M n c = nI o) : o ≠ c := by
  unfold inw at h
  rcases lowf_val (iwP M c) n (-100) with ⟨e, -⟩ | ⟨k, k1, k2, k3⟩
  · rw [e] at h
    exact absurd h.symm (m100_4 o (by omega))
  · rw [k3] at h
    have : k = o := (nI_eq (by omega) (by omega)).mp h
    subst this
    exact (iwP_iff.mp k2).1
theorem ons_0 {g : Nat} (h5 : F M c 5 = nI g) (hg : g < 5) (h : ons M c = false) : g = 0 := by
  unfold ons at h
  rw [h5] at h
  split at h
  · rename_i q
    have := (nI_leI (a := g) (b := 0) (by omega) (by decide)).mp q
    omega
  · cases h
theorem occ_turn (hn : n ≤ 4) (hG : GC M c) {z : Nat} (hz : z < 6) (h : occ (turn M n c) c z = true) : occ M c z = true ∨ ∀ d, d < n → d ≠ c → ¬ occ M d z = true := by
  have key : cont M c z (nxt M c) = true → ¬ lft M c = true → hasT M c = true → ¬ blk M n c = true → occ M c z = true ∨ ∀ d, d < n → d ≠ c → ¬ occ M d z = true := by
    intro q hl hT hb
    by_cases ho : ons M c = true
    · left
      unfold occ
      rw [ho, q]
      simp
    · right
      intro d hd hdc hoc
      have hi : inw M n c = -100 := by
        apply Classical.byContradiction
        intro hi
        exact hb (blk_iff.mpr ⟨hT, by simpa using ho, hi⟩)
      exact inw_free hn hi hd (iwP_iff.mpr ⟨hdc, z, hz, q, hoc⟩)
  have ha9 : ∀ (v : Int32) (k : Nat), k < 9 → ∀ k', 9 ≤ k' → k' < 21 → F (setF M c k v) c k' = F M c k' := fun v k hk k' h1 _ => F_nk (by omega)
  rw [turn_tn] at h
  unfold tn at h
  by_cases hl : lft M c = true
  · left
    rw [if_pos hl] at h
    have h2 := occ_hasA h
    rw [hasA_cg (ha9 _ 0 (by decide)) hz] at h2
    unfold occ
    rw [hl, h2]
    simp
  · rw [if_neg hl] at h
    by_cases hb : blk M n c = true
    · left
      rw [if_pos hb] at h
      have e : occ (setF M c 6 (F M c 6 + 1)) c z = occ M c z := by
        unfold occ nxt ons lft
        rw [F_nk (by decide), F_nk (by decide), F_nk (by decide), F_nk (by decide), cont_cg (ha9 _ 6 (by decide)) hz, cont_cg (ha9 _ 6 (by decide)) hz, hasA_cg (ha9 _ 6 (by decide)) hz]
      rw [e] at h
      exact h
    · rw [if_neg hb] at h
      by_cases hT : hasT M c = true
      · rw [if_pos hT] at h
        by_cases e : F M c 5 + 1 = F M c 1
        · rw [if_pos e] at h
          obtain ⟨a, b', p, g, h0, ha, h1, hb1, hb5, h2, hp, h5, hg, hh⟩ := hG
          have hs9 : ∀ k', 9 ≤ k' → k' < 21 → F (stp (prg M c) c) c k' = F M c k' := by
            intro k' q1 q2
            rw [stpP_F, if_neg (show ¬ k' = 4 by omega), if_neg (show ¬ k' = 3 by omega), if_neg (show ¬ k' = 8 by omega), if_neg (show ¬ k' = 5 by omega), if_neg (show ¬ k' = 0 by omega)]
            split <;> rfl
          have e0 : F (stp (prg M c) c) c 0 = nxt M c := by rw [stpP_F]; split <;> rfl
          have e5 : F (stp (prg M c) c) c 5 = 0 := by rw [stpP_F]; split <;> rfl
          have e7 : F (stp (prg M c) c) c 7 = F M c 7 := by rw [stpP_F]; split <;> rfl
          have eo : ons (stp (prg M c) c) c = false := by
            unfold ons
            rw [e5]
            rfl
          have el : lft (stp (prg M c) c) c = false := by
            unfold lft at hl ⊢
            rw [e7]
            simpa using hl
          unfold occ at h
          rw [eo, el, e0, cont_cg hs9 hz] at h
          have h : cont M c z (nxt M c) = true := by simpa using h
          exact key h hl hT hb
        · rw [if_neg e] at h
          have hs9 : ∀ k', 9 ≤ k' → k' < 21 → F (prg M c) c k' = F M c k' := fun k' q1 q2 => F_nk (by omega)
          have e0 : F (prg M c) c 0 = F M c 0 := F_nk (by decide)
          have el : lft (prg M c) c = false := by
            unfold lft at hl ⊢
            rw [show F (prg M c) c 7 = F M c 7 from F_nk (by decide)]
            simpa using hl
          unfold occ at h
          rw [e0, nxt_prg, el, cont_cg hs9 hz, cont_cg hs9 hz, Bool.or_eq_true, Bool.or_eq_true, Bool.and_eq_true] at h
          rcases h with h | ⟨-, h⟩ | h
          · left
            unfold occ
            rw [h]
            simp
          · exact key h hl hT hb
          · simp at h
      · left
        rw [if_neg hT] at h
        exact h
theorem NC_turn (hn : n ≤ 4) (hG : GD M n) (h : NC M n) (hc : c < n) : NC (turn M n c) n := by
  have ho : ∀ d, d ≠ c → ∀ z, z < 6 → occ (turn M n c) d z = occ M d z := fun d hd z hz => occ_congr (fun k hk => turn_Fne hd hk) hz
  have hself : ∀ z, z < 6 → ∀ d, d < n → d ≠ c → occ (turn M n c) c z = true → occ M d z = true → False := by
    intro z hz d hd hdc h1 h2
    rcases occ_turn hn (hG.2.2 c hc) hz h1 with q | q
    · exact hdc (h z hz d hd c hc h2 q)
    · exact q d hd hdc h2
  intro z hz c1 hc1 c2 hc2 h1 h2
  by_cases e1 : c1 = c
  · by_cases e2 : c2 = c
    · rw [e1, e2]
    · subst e1
      rw [ho c2 e2 z hz] at h2
      exact (hself z hz c2 hc2 e2 h1 h2).elim
  · by_cases e2 : c2 = c
    · subst e2
      rw [ho c1 e1 z hz] at h1
      exact (hself z hz c1 hc1 e1 h2 h1).elim
    · rw [ho c1 e1 z hz] at h1
      rw [ho c2 e2 z hz] at h2
      exact h z hz c1 hc1 c2 hc2 h1 h2
theorem NC_tkC (hn : n ≤ 4) (hG : GD M n) (h : NC M n) (p : Int32) (j : Nat) (hj : j ≤ n) : NC (tkC M n p j) n := by
  induction j with
  | zero => exact h
  | succ j ih =>
    unfold tkC
    split
    · exact NC_turn hn (GD_tkC hG p j (by omega)) (ih (by omega)) (by omega)
    · exact ih (by omega)
theorem NC_tkP (hn : n ≤ 4) (hG : GD M n) (h : NC M n) (k : Nat) : NC (tkP M n k) n := by
  induction k with
  | zero => exact h
  | succ k ih => exact NC_tkC hn (GD_tkP hG k) ih _ n (Nat.le_refl _)
theorem NC_cg {M' : Nat → Int32} (h : NC M n) (e : ∀ c, c < n → ∀ k, k < 21 → F M' c k = F M c k) : NC M' n := by
  intro z hz c hc d hd h1 h2
  rw [occ_congr (e c hc) hz] at h1
  rw [occ_congr (e d hd) hz] at h2
  exact h z hz c hc d hd h1 h2
theorem NC_it (hn : n ≤ 4) (hG : GD M n) (h : NC M n) (i : Nat) : NC (itM M n i) n := by
  induction i with
  | zero => exact h
  | succ i ih => exact NC_cg (NC_tkP hn (GD_it hG i) ih 10) (fun c hc k hk => F_low (by decide))
/-! cycles -/
theorem cyc_shift {o : Nat} (ho : nb M n c = some o) : ∀ (r a : Nat), cyc M n c r a = true → cyc M n o (r + 1) a = true := by
  intro r
  induction r with
  | zero => intro a h; cases h
  | succ r ih =>
    intro a h
    unfold cyc at h ⊢
    cases ha : nb M n a with
    | none => rw [ha] at h; cases h
    | some x =>
      rw [ha] at h
      dsimp only at h ⊢
      by_cases e2 : x = o
      · rw [if_pos e2]
      · rw [if_neg e2]
        by_cases e : x = c
        · subst e
          unfold cyc
          rw [ho]
          dsimp only
          rw [if_pos rfl]
        · rw [if_neg e] at h
          exact ih x h
theorem cyc_next (h : cyc M n c 4 c = true) : ∃ o, nb M n c = some o ∧ cyc M n o 4 o = true := by
  have h' := h
  unfold cyc at h
  cases hc : nb M n c with
  | none => rw [hc] at h; cases h
  | some o =>
    refine ⟨o, rfl, ?_⟩
    rw [hc] at h
    dsimp only at h
    by_cases e : o = c
    · subst e
      exact h'
    · rw [if_neg e] at h
      exact cyc_shift hc 3 o h
end SND
