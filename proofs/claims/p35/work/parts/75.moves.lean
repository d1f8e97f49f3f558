/-! p35: each change keeps what holds -/
section MVS
variable {M : Nat → Int32} {n c : Nat}
theorem GD_at {M' : Nat → Int32} (h : GD M n) (h1 : M' 1 = M 1) (h3 : M' 3 = M 3) (ho : ∀ d, d ≠ c → ∀ k, k < 21 → F M' d k = F M d k) (hc : GC M c → GC M' c) : GD M' n := by
  refine ⟨by rw [h1]; exact h.1, by rw [h3]; exact h.2.1, fun d hd => ?_⟩
  by_cases e : d = c
  · subst e
    exact hc (h.2.2 d hd)
  · exact GC_congr (h.2.2 d hd) (fun k hk _ _ _ => ho d e k hk)
theorem NC_at {M' : Nat → Int32} (h : NC M n) (ho : ∀ d, d ≠ c → ∀ k, k < 21 → F M' d k = F M d k) (hs : c < n → ∀ z, z < 6 → occ M' c z = true → occ M c z = true ∨ ∀ d, d < n → d ≠ c → ¬ occ M d z = true) : NC M' n := by
  have hoo : ∀ d, d ≠ c → ∀ z, z < 6 → occ M' d z = occ M d z := fun d hd z hz => occ_congr (ho d hd) hz
  have hself : ∀ z, z < 6 → c < n → ∀ d, d < n → d ≠ c → occ M' c z = true → occ M d z = true → False := by
    intro z hz hc d hd hdc h1 h2
    rcases hs hc z hz h1 with q | q
    · exact hdc (h z hz d hd c hc h2 q)
    · exact q d hd hdc h2
  intro z hz c1 hc1 c2 hc2 h1 h2
  by_cases e1 : c1 = c
  · by_cases e2 : c2 = c
    · rw [e1, e2]
    · subst e1
      rw [hoo c2 e2 z hz] at h2
      exact (hself z hz hc1 c2 hc2 e2 h1 h2).elim
  · by_cases e2 : c2 = c
    · subst e2
      rw [hoo c1 e1 z hz] at h1
      exact (hself z hz hc2 c1 hc1 e1 h2 h1).elim
    · rw [hoo c1 e1 z hz] at h1
      rw [hoo c2 e2 z hz] at h2
      exact h z hz c1 hc1 c2 hc2 h1 h2
theorem occ_cg {M' : Nat → Int32} (h : ∀ k, k < 21 → k ≠ 1 → k ≠ 2 → k ≠ 3 → k ≠ 6 → k ≠ 8 → F M' c k = F M c k) {z : Nat} (hz : z < 6) : occ M' c z = occ M c z := by
  have h9 : ∀ k, 9 ≤ k → k < 21 → F M' c k = F M c k := fun k h1 h2 => h k h2 (by omega) (by omega) (by omega) (by omega) (by omega)
  unfold occ nxt ons lft
  rw [h 0 (by decide) (by decide) (by decide) (by decide) (by decide) (by decide), h 4 (by decide) (by decide) (by decide) (by decide) (by decide) (by decide), h 5 (by decide) (by decide) (by decide) (by decide) (by decide) (by decide), h 7 (by decide) (by decide) (by decide) (by decide) (by decide) (by decide), cont_cg h9 hz, cont_cg h9 hz, hasA_cg h9 hz]
/-- of a crane on no step the way is of no account -/
theorem occ_off {M' : Nat → Int32} (h : ∀ k, k < 21 → k ≠ 1 → k ≠ 2 → k ≠ 3 → k ≠ 4 → k ≠ 6 → k ≠ 8 → F M' c k = F M c k) (ho : ons M c = false) {z : Nat} (hz : z < 6) : occ M' c z = occ M c z := by
  have h9 : ∀ k, 9 ≤ k → k < 21 → F M' c k = F M c k := fun k h1 h2 => h k h2 (by omega) (by omega) (by omega) (by omega) (by omega) (by omega)
  have h5 : F M' c 5 = F M c 5 := h 5 (by decide) (by decide) (by decide) (by decide) (by decide) (by decide) (by decide)
  have ho' : ons M' c = false := by
    unfold ons at ho ⊢
    rw [h5]
    exact ho
  have hl : lft M' c = lft M c := by
    unfold lft
    rw [h 7 (by decide) (by decide) (by decide) (by decide) (by decide) (by decide) (by decide)]
  unfold occ
  rw [ho, ho', hl, h 0 (by decide) (by decide) (by decide) (by decide) (by decide) (by decide) (by decide), cont_cg h9 hz, hasA_cg h9 hz, Bool.false_and, Bool.false_and]
theorem mv_prio (hG : GD M n) (hN : NC M n) {p : Nat} (hp : p ≤ 9) : GD (setF M c 2 (nI p)) n ∧ NC (setF M c 2 (nI p)) n := by
  refine ⟨GD_at (c := c) hG (setF_lo (by decide)) (setF_lo (by decide)) (fun d hd k hk => F_nc hd (by decide) hk) ?_, NC_at (c := c) hN (fun d hd k hk => F_nc hd (by decide) hk) (fun _ z hz h => Or.inl ?_)⟩
  · rintro ⟨a, b, q, g, h0, ha, h1, hb1, hb5, h2, hp2, h5, hg, h⟩
    refine ⟨a, b, p, g, by rw [F_nk (by decide)]; exact h0, ha, by rw [F_nk (by decide)]; exact h1, hb1, hb5, F_same, hp, by rw [F_nk (by decide)]; exact h5, hg, ?_⟩
    rw [F_nk (by decide), F_nk (by decide), F_nk (by decide)]
    exact h
  · rw [occ_cg (fun k _ _ h2 _ _ _ => F_nk h2) hz] at h
    exact h
theorem arcM_F {z a b k : Nat} : F (arcM M c z a b) c k = if k = 9 + 2 * z + 1 then nI b else if k = 9 + 2 * z then nI a else F M c k := by
  unfold arcM
  rw [F_set, F_set]
theorem arcM_Fne {z a b k d : Nat} (hz : z < 6) (hd : d ≠ c) (hk : k < 21) : F (arcM M c z a b) d k = F M d k := by
  unfold arcM
  rw [F_nc hd (by omega) hk, F_nc hd (by omega) hk]
theorem rmA_F {z k : Nat} : F (rmA M c z) c k = if k = 9 + 2 * z + 1 then -100 else if k = 9 + 2 * z then -100 else F M c k := by
  unfold rmA
  rw [F_set, F_set]
theorem rmA_Fne {z k d : Nat} (hz : z < 6) (hd : d ≠ c) (hk : k < 21) : F (rmA M c z) d k = F M d k := by
  unfold rmA
  rw [F_nc hd (by omega) hk, F_nc hd (by omega) hk]
/-- an arc that is changed shows at its own zone alone -/
theorem occ_oth {M' : Nat → Int32} {z z' : Nat} (hne : z' ≠ z) (hz' : z' < 6) (h : ∀ k, k < 21 → k ≠ 9 + 2 * z → k ≠ 9 + 2 * z + 1 → F M' c k = F M c k) (hz : z < 6) : occ M' c z' = occ M c z' := by
  unfold occ nxt ons lft cont hasA
  rw [h 0 (by decide) (by omega) (by omega), h 4 (by decide) (by omega) (by omega), h 5 (by decide) (by omega) (by omega), h 7 (by decide) (by omega) (by omega), h (9 + 2 * z') (by omega) (by omega) (by omega), h (9 + 2 * z' + 1) (by omega) (by omega) (by omega)]
theorem mv_arc (hn : n ≤ 4) (hG : GD M n) (hN : NC M n) {z a b : Nat} (hz : z < 6) (hw : (cnf (arcM M c z a b) n z && !cnf M n z) = false) : GD (arcM M c z a b) n ∧ NC (arcM M c z a b) n := by
  have hF : ∀ k, k < 21 → k ≠ 9 + 2 * z → k ≠ 9 + 2 * z + 1 → F (arcM M c z a b) c k = F M c k := fun k _ h1 h2 => by rw [arcM_F, if_neg h2, if_neg h1]
  have hcn : cnf (arcM M c z a b) n z = false := by
    rw [NC_cnf hn hN hz] at hw
    simpa using hw
  refine ⟨GD_at (c := c) hG ?_ ?_ (fun d hd k hk => arcM_Fne hz hd hk) (fun h => GC_congr h (fun k hk _ _ k9 => hF k hk (by omega) (by omega))), ?_⟩
  · unfold arcM
    rw [setF_lo (by decide), setF_lo (by decide)]
  · unfold arcM
    rw [setF_lo (by decide), setF_lo (by decide)]
  · intro z' hz' c1 hc1 c2 hc2 h1 h2
    by_cases e : z' = z
    · subst e
      exact (cnf_iff hn).mp hcn c1 hc1 c2 hc2 h1 h2
    · have key : ∀ d, occ (arcM M c z a b) d z' = occ M d z' := by
        intro d
        by_cases ed : d = c
        · subst ed
          exact occ_oth e hz' hF hz
        · exact occ_congr (fun k hk => arcM_Fne hz ed hk) hz'
      rw [key] at h1 h2
      exact hN z' hz' c1 hc1 c2 hc2 h1 h2
theorem mv_rm (hG : GD M n) {z : Nat} (hz : z < 6) : GD (rmA M c z) n ∧ (NC M n → NC (rmA M c z) n) := by
  have hF : ∀ k, k < 21 → k ≠ 9 + 2 * z → k ≠ 9 + 2 * z + 1 → F (rmA M c z) c k = F M c k := fun k _ h1 h2 => by rw [rmA_F, if_neg h2, if_neg h1]
  refine ⟨GD_at (c := c) hG ?_ ?_ (fun d hd k hk => rmA_Fne hz hd hk) (fun h => GC_congr h (fun k hk _ _ k9 => hF k hk (by omega) (by omega))), fun hN => NC_at (c := c) hN (fun d hd k hk => rmA_Fne hz hd hk) (fun _ z' hz' h => Or.inl ?_)⟩
  · unfold rmA
    rw [setF_lo (by decide), setF_lo (by decide)]
  · unfold rmA
    rw [setF_lo (by decide), setF_lo (by decide)]
  · by_cases e : z' = z
    · subst e
      have := occ_hasA h
      have e9 : F (rmA M c z') c (9 + 2 * z') = -100 := by rw [rmA_F, if_neg (show ¬ 9 + 2 * z' = 9 + 2 * z' + 1 by omega), if_pos rfl]
      unfold hasA at this
      rw [if_pos e9] at this
      cases this
    · rw [occ_oth e hz' hF hz] at h
      exact h
theorem noT_F {k : Nat} : F (noT M c) c k = if k = 4 then 0 else if k = 3 then -100 else F M c k := by
  unfold noT
  rw [F_set, F_set]
theorem noT_Fne {k d : Nat} (hd : d ≠ c) (hk : k < 21) : F (noT M c) d k = F M d k := by
  unfold noT
  rw [F_nc hd (by decide) hk, F_nc hd (by decide) hk]
theorem noT_lo {i : Nat} (h : i < 4) : noT M c i = M i := by
  unfold noT
  rw [setF_lo h, setF_lo h]
theorem GC_noT (ho : ons M c = false) (h : GC M c) : GC (noT M c) c := by
  obtain ⟨a, b, q, g, h0, ha, h1, hb1, hb5, h2, hp2, h5, hg, h⟩ := h
  have hg0 := ons_0 h5 (by omega) ho
  refine ⟨a, b, q, g, by rw [noT_F]; exact h0, ha, by rw [noT_F]; exact h1, hb1, hb5, by rw [noT_F]; exact h2, hp2, by rw [noT_F]; exact h5, hg, Or.inl ⟨by rw [noT_F]; rfl, by rw [noT_F]; rfl, hg0, ?_⟩⟩
  rw [noT_F]
  rcases h with ⟨-, -, -, h7⟩ | ⟨t, -, -, -, -, h7⟩
  · exact h7
  · exact Or.inl h7
theorem mv_noT (hG : GD M n) (hN : NC M n) (ho : ons M c = false) : GD (noT M c) n ∧ NC (noT M c) n := by
  refine ⟨GD_at (c := c) hG (noT_lo (by decide)) (noT_lo (by decide)) (fun d hd k hk => noT_Fne hd hk) (GC_noT ho), NC_at (c := c) hN (fun d hd k hk => noT_Fne hd hk) (fun _ z hz h => Or.inl ?_)⟩
  rw [occ_off (fun k _ _ _ k3 k4 _ _ => by rw [noT_F, if_neg k4, if_neg k3]) ho hz] at h
  exact h
theorem mv_round (hG : GD M n) (hN : NC M n) (hT : hasT M c = true) (ho : ons M c = false) : GD (setF M c 4 (-(F M c 4))) n ∧ NC (setF M c 4 (-(F M c 4))) n := by
  refine ⟨GD_at (c := c) hG (setF_lo (by decide)) (setF_lo (by decide)) (fun d hd k hk => F_nc hd (by decide) hk) ?_, NC_at (c := c) hN (fun d hd k hk => F_nc hd (by decide) hk) (fun _ z hz h => Or.inl ?_)⟩
  · rintro ⟨a, b, q, g, h0, ha, h1, hb1, hb5, h2, hp2, h5, hg, h⟩
    refine ⟨a, b, q, g, by rw [F_nk (by decide)]; exact h0, ha, by rw [F_nk (by decide)]; exact h1, hb1, hb5, by rw [F_nk (by decide)]; exact h2, hp2, by rw [F_nk (by decide)]; exact h5, hg, ?_⟩
    rcases h with ⟨h3, -⟩ | ⟨t, ht, hta, h3, h4, h7⟩
    · rw [no_T h3] at hT
      cases hT
    · refine Or.inr ⟨t, ht, hta, by rw [F_nk (by decide)]; exact h3, ?_, by rw [F_nk (by decide)]; exact h7⟩
      rw [F_same]
      rcases h4 with e | e <;> rw [e]
      · exact Or.inr rfl
      · exact Or.inl (by decide)
  · rw [occ_off (fun k _ _ _ _ k4 _ _ => F_nk k4) ho hz] at h
    exact h
theorem lvM_F {k : Nat} : F (lvM M c) c k = if k = 7 then 1 else if k = 4 then 0 else if k = 3 then -100 else F M c k := by
  unfold lvM
  rw [F_set, noT_F]
theorem lvM_Fne {k d : Nat} (hd : d ≠ c) (hk : k < 21) : F (lvM M c) d k = F M d k := by
  unfold lvM
  rw [F_nc hd (by decide) hk, noT_Fne hd hk]
theorem lvM_lo {i : Nat} (h : i < 4) : lvM M c i = M i := by
  unfold lvM
  rw [setF_lo h, noT_lo h]
theorem lft_off (h : GC M c) (hl : lft M c = true) : ons M c = false := by
  obtain ⟨a, b, q, g, h0, ha, h1, hb1, hb5, h2, hp2, h5, hg, h⟩ := h
  rcases h with ⟨h3, h4, hg0, h7⟩ | ⟨t, -, -, -, -, h7⟩
  · unfold ons
    rw [h5, hg0]
    rfl
  · rw [no_L h7] at hl
    cases hl
theorem GC_lvM (ho : ons M c = false) (h : GC M c) : GC (lvM M c) c := by
  obtain ⟨a, b, q, g, h0, ha, h1, hb1, hb5, h2, hp2, h5, hg, h⟩ := h
  have hg0 := ons_0 h5 (by omega) ho
  exact ⟨a, b, q, g, by rw [lvM_F]; exact h0, ha, by rw [lvM_F]; exact h1, hb1, hb5, by rw [lvM_F]; exact h2, hp2, by rw [lvM_F]; exact h5, hg, Or.inl ⟨by rw [lvM_F]; rfl, by rw [lvM_F]; rfl, hg0, by rw [lvM_F]; exact Or.inr rfl⟩⟩
theorem bad_off (h : bad M n c = false) : ons M c = false ∧ ∀ z, z < 6 → hasA M c z = true → ∀ d, d < n → d ≠ c → ¬ occ M d z = true := by
  unfold bad at h
  rw [Bool.or_eq_false_iff] at h
  refine ⟨h.1, fun z hz hA d hd hdc ho => ?_⟩
  have : anyN (lvZ M n c) 6 = true := by
    rw [anyN_iff]
    refine ⟨z, hz, ?_⟩
    unfold lvZ
    rw [Bool.and_eq_true, anyN_iff]
    exact ⟨hA, d, hd, by rw [Bool.and_eq_true]; exact ⟨decide_eq_true hdc, ho⟩⟩
  rw [this] at h
  exact absurd h.2 (by decide)
theorem GD_leave (hG : GD M n) (hc : c < n) (h : lft M c = true ∨ bad M n c = false) : GD (lvM M c) n := by
  have ho : ons M c = false := h.elim (fun hl => lft_off (hG.2.2 c hc) hl) (fun hb => (bad_off hb).1)
  exact GD_at (c := c) hG (lvM_lo (by decide)) (lvM_lo (by decide)) (fun d hd k hk => lvM_Fne hd hk) (GC_lvM ho)
theorem mv_leave (hG : GD M n) (hN : NC M n) (hc : c < n) (h : lft M c = true ∨ bad M n c = false) : GD (lvM M c) n ∧ NC (lvM M c) n := by
  refine ⟨GD_leave hG hc h, NC_at (c := c) hN (fun d hd k hk => lvM_Fne hd hk) (fun _ z hz ho => ?_)⟩
  have hA := occ_hasA ho
  have h9 : ∀ k, 9 ≤ k → k < 21 → F (lvM M c) c k = F M c k := fun k k1 _ => by rw [lvM_F, if_neg (show ¬ k = 7 by omega), if_neg (show ¬ k = 4 by omega), if_neg (show ¬ k = 3 by omega)]
  rw [hasA_cg h9 hz] at hA
  rcases h with hl | hb
  · left
    unfold occ
    rw [hl, hA]
    simp
  · exact Or.inr ((bad_off hb).2 z hz hA)
theorem mv_back (hG : GD M n) (hN : NC M n) : GD (setF M c 7 0) n ∧ NC (setF M c 7 0) n := by
  refine ⟨GD_at (c := c) hG (setF_lo (by decide)) (setF_lo (by decide)) (fun d hd k hk => F_nc hd (by decide) hk) ?_, NC_at (c := c) hN (fun d hd k hk => F_nc hd (by decide) hk) (fun _ z hz h => Or.inl ?_)⟩
  · rintro ⟨a, b, q, g, h0, ha, h1, hb1, hb5, h2, hp2, h5, hg, h⟩
    refine ⟨a, b, q, g, by rw [F_nk (by decide)]; exact h0, ha, by rw [F_nk (by decide)]; exact h1, hb1, hb5, by rw [F_nk (by decide)]; exact h2, hp2, by rw [F_nk (by decide)]; exact h5, hg, ?_⟩
    rw [F_nk (by decide), F_nk (by decide), F_same]
    rcases h with ⟨h3, h4, hg0, h7⟩ | ⟨t, ht, hta, h3, h4, h7⟩
    · exact Or.inl ⟨h3, h4, hg0, Or.inl rfl⟩
    · exact Or.inr ⟨t, ht, hta, h3, h4, rfl⟩
  · have h9 : ∀ k, 9 ≤ k → k < 21 → F (setF M c 7 0) c k = F M c k := fun k k1 _ => F_nk (by omega)
    have hl : lft (setF M c 7 0) c = false := no_L F_same
    unfold occ nxt ons at h
    rw [hl, F_nk (by decide), F_nk (by decide), F_nk (by decide), cont_cg h9 hz, cont_cg h9 hz, Bool.false_and, Bool.or_false, Bool.or_eq_true] at h
    unfold occ nxt ons
    rcases h with h | h
    · rw [h]
      simp
    · rw [h]
      simp
theorem mv_wind (hG : GD M n) (hN : NC M n) {w : Nat} (hw : w < 36) : GD (upd M 1 (nI w)) n ∧ NC (upd M 1 (nI w)) n :=
  ⟨⟨⟨w, hw, upd_eq⟩, by rw [upd_ne (by decide)]; exact hG.2.1, fun d hd => GC_congr (hG.2.2 d hd) (fun k hk _ _ _ => F_low (by decide))⟩, NC_cg hN (fun d hd k hk => F_low (by decide))⟩
theorem aimM_Fs {k : Nat} {t w : Int32} : F (aimM M c t w) c k = if stTo M c t (its M c t w) = (0 : Int32) then (if k = 4 then 0 else if k = 3 then -100 else F M c k) else (if k = 4 then its M c t w else if k = 3 then t else F M c k) := by
  unfold aimM
  split
  · rw [noT_F]
    unfold aim1
    rw [F_set, F_set]
    by_cases e4 : k = 4
    · rw [if_pos e4, if_pos e4]
    · by_cases e3 : k = 3
      · rw [if_neg e4, if_pos e3, if_neg e4, if_pos e3]
      · rw [if_neg e4, if_neg e3, if_neg e4, if_neg e3, if_neg e4, if_neg e3]
  · unfold aim1
    rw [F_set, F_set]
theorem mv_aim (hG : GD M n) (hN : NC M n) (hc : c < n) (ho : ons M c = false) (hl : lft M c = false) {t : Nat} (ht : t < 36) {w : Int32} (hw : w = 0 ∨ w = 1 ∨ w = -1) : GD (aimM M c (nI t) w) n ∧ NC (aimM M c (nI t) w) n ∧ ¬ stTo M c (nI t) (its M c (nI t) w) < -100 := by
  obtain ⟨wb, hwb⟩ := wI_of (its_cases (M := M) (c := c) (t := nI t) hw)
  obtain ⟨a, b, q, g, h0, ha, h1, hb1, hb5, h2, hp2, h5, hg, h⟩ := hG.2.2 c hc
  have hst : stTo M c (nI t) (its M c (nI t) w) = nI (sN wb a t) := by
    rw [hwb]
    exact stTo_e wb ha ht h0
  have hsl : sN wb a t < 36 := by cases wb <;> exact Nat.mod_lt _ (by decide)
  have hg0 := ons_0 h5 (by omega) ho
  have h7 : F M c 7 = 0 := by
    rcases h with ⟨-, -, -, h7⟩ | ⟨t, -, -, -, -, h7⟩
    · rcases h7 with e | e
      · exact e
      · rw [lft_1.mpr e] at hl
        cases hl
    · exact h7
  refine ⟨GD_at (c := c) hG (aimM_lo (by decide)) (aimM_lo (by decide)) (fun d hd k hk => aimM_F hd hk) (fun _ => ?_), NC_at (c := c) hN (fun d hd k hk => aimM_F hd hk) (fun _ z hz hh => Or.inl ?_), ?_⟩
  · have f0 : F (aimM M c (nI t) w) c 0 = nI a := by rw [aimM_Fs]; split <;> exact h0
    have f1 : F (aimM M c (nI t) w) c 1 = nI b := by rw [aimM_Fs]; split <;> exact h1
    have f2 : F (aimM M c (nI t) w) c 2 = nI q := by rw [aimM_Fs]; split <;> exact h2
    have f5 : F (aimM M c (nI t) w) c 5 = nI g := by rw [aimM_Fs]; split <;> exact h5
    have f7 : F (aimM M c (nI t) w) c 7 = 0 := by rw [aimM_Fs]; split <;> exact h7
    refine ⟨a, b, q, g, f0, ha, f1, hb1, hb5, f2, hp2, f5, hg, ?_⟩
    by_cases e : t = a
    · have hz : stTo M c (nI t) (its M c (nI t) w) = (0 : Int32) := by
        rw [hst, e]
        have : sN wb a a = 0 := by cases wb <;> unfold sN <;> dsimp only <;> omega
        rw [this]
        rfl
      refine Or.inl ⟨by rw [aimM_Fs, if_pos hz]; rfl, by rw [aimM_Fs, if_pos hz]; rfl, hg0, Or.inl f7⟩
    · have hz : ¬ stTo M c (nI t) (its M c (nI t) w) = (0 : Int32) := by
        rw [hst]
        have := sN_rng wb ha ht e
        exact q_ne (b := 0) (by omega) (by omega) (by decide)
      refine Or.inr ⟨t, ht, e, by rw [aimM_Fs, if_neg hz]; rfl, ?_, f7⟩
      rw [aimM_Fs, if_neg hz, if_pos rfl]
      exact its_cases hw
  · rw [occ_off (fun k _ _ _ k3 k4 _ _ => aimM_k k3 k4) ho hz] at hh
    exact hh
  · rw [hst]
    intro e
    have h1 := Int32.lt_iff_toInt_lt.mp e
    rw [nI_toInt (by omega)] at h1
    have h2 : (-100 : Int32).toInt = -100 := by decide
    omega
end MVS
