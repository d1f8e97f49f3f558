/-! conflicts; addCrane, setArc, leave, override -/
theorem cOccupants_e {X M : Nat → Int32} {n fu z : Nat} (hR : Rel X M n) (hfu : 12 < fu) (hz : z < 6) : fX1_occupantsOf fu X (nI z) = some (msk (fun c => occ M c z) n) := by
  have hn4 := hR.1
  refine lp_go (body := fX1_occupantsOf_L4 fu X (nI z)) (fun j => (msk (fun c => occ M c z) j, nI j)) n _ (by omega) ?_ ?_
  · intro j hj
    have hb := msk_bit0 (occ M j) 6 z (by decide) hz
    unfold fX1_occupantsOf_L4
    simp only [rdk2, hR.2.1, Option.bind_some, if_neg (q_nle hj (show n < 2 ^ 31 by omega)), cZonesOcc_e hR hj hfu, nI_1, msk_step _ j (show j < 6 by omega), hb]
    by_cases h : occ M j z = true <;> simp [h]
  · unfold fX1_occupantsOf_L4
    simp only [rdk2, hR.2.1, Option.bind_some, if_pos (q_le (Nat.le_refl n) (show n < 2 ^ 31 by omega))]
theorem conf_msk (p : Nat → Bool) (n : Nat) (h : n ≤ 4) : (Option.bind (fJ6_bitCount_0f7a4 (msk p n)) fun v3 => if v3 ≤ (1 : Int32) then (some false) else (some true)) = (if (msk p n &&& (msk p n - (1 : Int32))) = (0 : Int32) then (some false) else (some true)) :=
  conf16 (mskN p n) (Nat.lt_of_lt_of_le (mskN_lt p n) (Nat.pow_le_pow_right (n := 2) (by decide) h))
theorem cIsConflict_e {X M : Nat → Int32} {n fu z : Nat} (hR : Rel X M n) (hfu : 12 < fu) (hz : z < 6) : fX1_isConflict fu X (nI z) = some (cnf M n z) := by
  have hn4 := hR.1
  unfold fX1_isConflict
  rw [cOccupants_e hR hfu hz, Option.bind_some]
  refine (conf_msk _ n hn4).trans ?_
  by_cases h : (msk (fun c => occ M c z) n &&& (msk (fun c => occ M c z) n - (1 : Int32))) = (0 : Int32)
  · rw [if_pos h]
    unfold cnf
    rw [decide_eq_false (fun q => q h)]
  · rw [if_neg h]
    unfold cnf
    rw [decide_eq_true h]
theorem cConflictSet_e {X M : Nat → Int32} {n fu : Nat} (hR : Rel X M n) (hfu : 12 < fu) : fX1_conflictSet fu X = some (msk (cnf M n) 6) := by
  refine lp_go (body := fX1_conflictSet_L4 fu X) (fun j => (msk (cnf M n) j, nI j)) 6 _ (by omega) ?_ ?_
  · intro j hj
    unfold fX1_conflictSet_L4
    simp only [if_neg (show ¬ (6 : Int32) ≤ nI j from q_nle (a := 6) hj (by decide)), cIsConflict_e hR hfu hj, Option.bind_some, nI_1, msk_step _ j hj]
    split <;> rfl
  · unfold fX1_conflictSet_L4
    simp only [if_pos (show (6 : Int32) ≤ nI 6 from q_le (a := 6) (by decide) (by decide))]
theorem occ_congr {M M' : Nat → Int32} {c z : Nat} (h : ∀ k, k < 21 → F M' c k = F M c k) (hz : z < 6) : occ M' c z = occ M c z := by
  unfold occ cont hasA ons lft nxt
  rw [h 0 (by decide), h 4 (by decide), h 5 (by decide), h 7 (by decide), h (9 + 2 * z) (by omega), h (9 + 2 * z + 1) (by omega)]
theorem cnf_congr {M M' : Nat → Int32} {n z : Nat} (h : ∀ c, c < n → ∀ k, k < 21 → F M' c k = F M c k) (hz : z < 6) : cnf M' n z = cnf M n z := by
  have e : msk (fun c => occ M' c z) n = msk (fun c => occ M c z) n := msk_congr (fun c hc => occ_congr (h c hc) hz)
  unfold cnf
  rw [e]
/-- what a new crane's places are at first -/
def ini (M : Nat → Int32) (n : Nat) : Nat → Nat → Int32
  | 0 => M
  | k + 1 => setF (ini M n k) n k (if 9 ≤ k ∨ k = 3 then -100 else 0)
theorem ini_F {M : Nat → Int32} {n : Nat} : ∀ (i k : Nat), F (ini M n i) n k = if k < i then (if 9 ≤ k ∨ k = 3 then -100 else 0) else F M n k := by
  intro i
  induction i with
  | zero => intro k; simp [ini]
  | succ i ih =>
    intro k
    unfold ini
    by_cases e : k = i
    · subst e
      rw [F_same, if_pos (show k < k + 1 by omega)]
    · rw [F_nk e, ih k]
      by_cases q : k < i
      · rw [if_pos q, if_pos (show k < i + 1 by omega)]
      · rw [if_neg q, if_neg (show ¬ k < i + 1 by omega)]
theorem ini_Fne {M : Nat → Int32} {n c k : Nat} (h : c ≠ n) (hk : k < 21) : ∀ i, i ≤ 21 → F (ini M n i) c k = F M c k := by
  intro i
  induction i with
  | zero => intro _; rfl
  | succ i ih =>
    intro hi
    unfold ini
    rw [F_nc h (by omega) hk]
    exact ih (by omega)
theorem ini_lo {M : Nat → Int32} {n j : Nat} (h : j < 4) : ∀ i, ini M n i j = M j := by
  intro i
  induction i with
  | zero => rfl
  | succ i ih =>
    unfold ini
    rw [setF_lo h]
    exact ih
theorem ini_hi {M : Nat → Int32} {n j : Nat} (hn : n < 4) (h : 88 ≤ j) : ∀ i, i ≤ 21 → ini M n i j = M j := by
  intro i
  induction i with
  | zero => intro _; rfl
  | succ i ih =>
    intro hi
    unfold ini
    rw [setF_hi hn (by omega) h]
    exact ih (by omega)
def newC (M : Nat → Int32) (n : Nat) (a b p : Int32) : Nat → Int32 := upd (setF (setF (setF (ini M n 21) n 0 a) n 1 b) n 2 p) 2 (nI (n + 1))
theorem newC_F {M : Nat → Int32} {n : Nat} {a b p : Int32} (k : Nat) (hk : k < 21) : F (newC M n a b p) n k = if k = 0 then a else if k = 1 then b else if k = 2 then p else if 9 ≤ k ∨ k = 3 then -100 else 0 := by
  unfold newC
  rw [F_low (by decide)]
  by_cases e2 : k = 2
  · subst e2
    rw [F_same]
    rfl
  · rw [F_nk e2]
    by_cases e1 : k = 1
    · subst e1
      rw [F_same]
      rfl
    · rw [F_nk e1]
      by_cases e0 : k = 0
      · subst e0
        rw [F_same]
        rfl
      · rw [F_nk e0, ini_F, if_pos hk, if_neg e0, if_neg e1, if_neg e2]
theorem newC_Fne {M : Nat → Int32} {n c k : Nat} {a b p : Int32} (h : c ≠ n) (hk : k < 21) : F (newC M n a b p) c k = F M c k := by
  unfold newC
  rw [F_low (by decide), F_nc h (by decide) hk, F_nc h (by decide) hk, F_nc h (by decide) hk, ini_Fne h hk 21 (Nat.le_refl _)]
theorem newC_lo {M : Nat → Int32} {n j : Nat} {a b p : Int32} (h : j < 4) (h2 : j ≠ 2) : newC M n a b p j = M j := by
  unfold newC
  rw [upd_ne h2, setF_lo h, setF_lo h, setF_lo h, ini_lo h]
theorem newC_hi {M : Nat → Int32} {n j : Nat} {a b p : Int32} (hn : n < 4) (h : 88 ≤ j) : newC M n a b p j = M j := by
  unfold newC
  rw [upd_ne (by omega), setF_hi hn (by decide) h, setF_hi hn (by decide) h, setF_hi hn (by decide) h, ini_hi hn h 21 (Nat.le_refl _)]
section API3
variable {R HR M : Nat → Int32} {HS HN SV : Int32} {fu : Nat}
theorem put_Rel {n : Nat} (hR : Rel R M n) (hn : n < 4) (a b p : Int32) : Rel (upd (upd (upd (upd (upd R 2 (nI (n + 1))) (ix n 0) a) (ix n 1) b) (ix n 2) p) (ix n 3) (-100)) (newC M n a b p) (n + 1) := by
  obtain ⟨h1, h2, h3, h4, h5, h6, h7, h8, h9⟩ := hR
  have l0 := ix_lt n hn 0 (by decide)
  have l1 := ix_lt n hn 1 (by decide)
  have l2 := ix_lt n hn 2 (by decide)
  have l3 := ix_lt n hn 3 (by decide)
  have low : ∀ j, j < 4 → j ≠ 2 → upd (upd (upd (upd (upd R 2 (nI (n + 1))) (ix n 0) a) (ix n 1) b) (ix n 2) p) (ix n 3) (-100) j = R j := fun j hj h2 => by
    rw [upd_ne (by omega), upd_ne (by omega), upd_ne (by omega), upd_ne (by omega), upd_ne h2]
  have oth : ∀ c, c < 4 → c ≠ n → ∀ k, k < 21 → upd (upd (upd (upd (upd R 2 (nI (n + 1))) (ix n 0) a) (ix n 1) b) (ix n 2) p) (ix n 3) (-100) (ix c k) = R (ix c k) := fun c hc hne k hk => by
    have hne2 : ∀ k', k' < 21 → ix c k ≠ ix n k' := fun k' hk' e => hne (ix_inj c hc k hk n hn k' hk' e).1
    have lk := ix_lt c hc k hk
    rw [upd_ne (hne2 3 (by decide)), upd_ne (hne2 2 (by decide)), upd_ne (hne2 1 (by decide)), upd_ne (hne2 0 (by decide)), upd_ne (by omega)]
  refine ⟨by omega, ?_, upd_eq, ?_, ?_, ?_, ?_, ?_, ?_⟩
  · rw [upd_ne (by omega), upd_ne (by omega), upd_ne (by omega), upd_ne (by omega), upd_eq]
  · rw [low 0 (by decide) (by decide), newC_lo (by decide) (by decide)]; exact h4
  · rw [low 1 (by decide) (by decide), newC_lo (by decide) (by decide)]; exact h5
  · rw [low 3 (by decide) (by decide), newC_lo (by decide) (by decide)]; exact h6
  · intro j hj
    rw [upd_ne (by omega), upd_ne (by omega), upd_ne (by omega), upd_ne (by omega), upd_ne (by omega), newC_hi hn (by omega)]
    exact h7 j hj
  · intro c hc k hk
    by_cases e : c = n
    · subst e
      have own : ∀ k', k' < 21 → k ≠ k' → ix c k ≠ ix c k' := fun k' hk' hne q => hne (ix_inj c hn k hk c hn k' hk' q).2
      have lk := ix_lt c hn k hk
      rw [newC_F k hk]
      by_cases e3 : k = 3
      · subst e3; rw [upd_eq]; rfl
      · rw [upd_ne (own 3 (by decide) e3)]
        by_cases e2 : k = 2
        · subst e2; rw [upd_eq]; rfl
        · rw [upd_ne (own 2 (by decide) e2)]
          by_cases e1 : k = 1
          · subst e1; rw [upd_eq]; rfl
          · rw [upd_ne (own 1 (by decide) e1)]
            by_cases e0 : k = 0
            · subst e0; rw [upd_eq]; rfl
            · rw [upd_ne (own 0 (by decide) e0), upd_ne (by omega), h9 c (Nat.le_refl _) hn k (by omega) hk, if_neg e0, if_neg e1, if_neg e2]
              by_cases e9 : k < 9
              · rw [if_pos e9, if_neg (by omega)]
              · rw [if_neg e9, if_pos (by omega)]
    · rw [oth c (by omega) e k hk, newC_Fne e hk]
      exact h8 c (by omega) k hk
  · intro c hc hc4 k hk4 hk
    rw [oth c hc4 (by omega) k hk]
    exact h9 c (by omega) hc4 k hk4 hk
theorem setF_back {c k1 k2 : Nat} {a b : Int32} (hne : k1 ≠ k2) : setF (setF (setF (setF M c k1 a) c k2 b) c k1 (F M c k1)) c k2 (F M c k2) = M := by
  funext j
  unfold setF F upd
  by_cases e2 : j = 4 + 21 * c + k2
  · rw [if_pos e2, e2]
  · rw [if_neg e2]
    by_cases e1 : j = 4 + 21 * c + k1
    · rw [if_pos e1, e1]
    · rw [if_neg e1, if_neg e2, if_neg e1]
end API3

