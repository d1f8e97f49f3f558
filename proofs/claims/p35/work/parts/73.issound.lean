/-! p35: the law's isSound answers true -/
section ISS
variable {R M : Nat → Int32} {n c fu : Nat}
theorem iss_326 (hR : Rel R M n) (hG : GD M n) (hc : c < n) (hfu : 12 < fu) : fL_isSound_J326 fu R (nI c) = some (.inl (nI (c + 1))) := by
  have hg := hG.2.2 c hc
  obtain ⟨N, hN, eN, hNz⟩ := need_e hg
  obtain ⟨a, b', p, g, h0, ha, h1, hb1, hb5, h2, hp, h5, hgb, hh⟩ := hg
  unfold fL_isSound_J326
  refine obs (lhasT hR hc hfu) ?_
  by_cases hT : hasT M c = true
  · rw [if_pos hT]
    rcases hh with ⟨h3, -⟩ | ⟨t, ht, hta, h3, h4, h7⟩
    · rw [no_T h3] at hT
      cases hT
    · refine obs (crane3 hR hc hfu) ?_
      refine obs (crane0 hR hc hfu) ?_
      rw [if_neg (by rw [h3, h0]; exact q_ne hta (by omega) (by omega))]
      refine obs (crane7 hR hc hfu) ?_
      rw [if_neg (by rw [h7]; decide)]
      refine obs (needs_x hR (GD_wf hG) hc) ?_
      rw [eN, if_pos (show (1 : Int32) ≤ nI N from q_le (a := 1) (by have := hNz.mp hT; omega) (by omega)), nI_1]
  · rw [if_neg hT, nI_1]
theorem iss_282 (hR : Rel R M n) (hG : GD M n) (hc : c < n) (hfu : 12 < fu) : fL_isSound_J282 fu R (nI c) = some (.inl (nI (c + 1))) := by
  have h3 := iss_326 hR hG hc hfu
  have hg := hG.2.2 c hc
  obtain ⟨a, b', p, g, h0, ha, h1, hb1, hb5, h2, hp, h5, hgb, hh⟩ := hg
  unfold fL_isSound_J282
  refine obs (lhasT hR hc hfu) ?_
  refine obs (crane4 hR hc hfu) ?_
  rcases hh with ⟨e3, e4, -, -⟩ | ⟨t, ht, hta, e3, e4, -⟩
  · have hT := no_T e3
    rw [if_pos e4, hT, if_neg (show ¬ bI false = (1 : Int32) by decide)]
    refine obs (lhasT hR hc hfu) ?_
    rw [hT, if_neg (by decide)]
    refine obs (needs_x hR (GD_wf hG) hc) ?_
    have : need M c = 0 := by
      unfold need
      rw [hT]
      rfl
    rw [this, if_pos rfl, h3]
  · have hT := is_T ht e3
    have h4 : ¬ F M c 4 = 0 := by rcases e4 with q | q <;> rw [q] <;> decide
    rw [if_neg h4, hT, if_neg (show ¬ bI true = (0 : Int32) by decide)]
    refine obs (lhasT hR hc hfu) ?_
    rw [hT, if_pos rfl, h3]
theorem iss_246 (hR : Rel R M n) (hG : GD M n) (hc : c < n) (hfu : 12 < fu) : fL_isSound_J246 fu R (nI c) = some (.inl (nI (c + 1))) := by
  have h3 := iss_282 hR hG hc hfu
  have hg := hG.2.2 c hc
  obtain ⟨a, b', p, g, h0, ha, h1, hb1, hb5, h2, hp, h5, hgb, hh⟩ := hg
  unfold fL_isSound_J246
  refine obs (crane5 hR hc hfu) ?_
  refine obs (crane1 hR hc hfu) ?_
  rw [h5, h1, if_neg (q_nle hgb (by omega))]
  refine obs (crane5 hR hc hfu) ?_
  by_cases q : F M c 5 ≤ (0 : Int32)
  · rw [if_pos q, h3]
  · rw [if_neg q]
    refine obs (lhasT hR hc hfu) ?_
    rcases hh with ⟨e3, e4, eg, -⟩ | ⟨t, ht, hta, e3, e4, -⟩
    · rw [h5, eg] at q
      exact absurd (show nI 0 ≤ (0 : Int32) by decide) q
    · rw [if_pos (is_T ht e3), h3]
theorem iss_217 (hR : Rel R M n) (hG : GD M n) (hc : c < n) (hfu : 12 < fu) : fL_isSound_J217 fu R (if blk M n c = true then inw M n c else (-100 : Int32)) (nI c) (msk (fun c => cyc M n c 4 c) n) = some (.inl (nI (c + 1))) := by
  have hn := hR.1
  have h3 := iss_246 hR hG hc hfu
  unfold fL_isSound_J217
  by_cases q : cyc M n c 4 c = true
  · rw [if_pos ((msk_tst (fun c => cyc M n c 4 c) (show n ≤ 6 by omega) hc).mpr q)]
    obtain ⟨o, ho, hco⟩ := cyc_next q
    rcases nb_e M n c with ⟨e1, -⟩ | ⟨o', ho', e1, e2⟩
    · rw [ho] at e1
      cases e1
    · rw [ho] at e1
      have e1 := Option.some.inj e1
      subst e1
      rw [e2, if_neg (m100_4 o (by omega)), if_pos ((msk_tst (fun c => cyc M n c 4 c) (show n ≤ 6 by omega) ho').mpr hco), h3]
  · rw [if_neg (fun z => q ((msk_tst (fun c => cyc M n c 4 c) (show n ≤ 6 by omega) hc).mp z)), h3]
theorem iss_151 (hR : Rel R M n) (hG : GD M n) (hc : c < n) (hfu : 12 < fu) : fL_isSound_L151 fu R (msk (fun c => cyc M n c 4 c) n) (nI c) = some (.inl (nI (c + 1))) := by
  have hn := hR.1
  have h3 := iss_217 hR hG hc hfu
  unfold fL_isSound_L151
  refine obs (cranes_x hR) ?_
  rw [if_neg (q_nle hc (by omega))]
  refine obs (blocker_x hR hc hfu) ?_
  rcases nb_e M n c with ⟨-, e2⟩ | ⟨o, ho, e1, e2⟩
  · rw [if_pos e2]
    exact h3
  · have hb : blk M n c = true := by
      apply Classical.byContradiction
      intro hb
      rw [if_neg hb] at e2
      exact m100_4 o (by omega) e2.symm
    have hi : inw M n c = nI o := by rw [if_pos hb] at e2; exact e2
    have hoc := inw_val hn ho hi
    have hbb := blk_iff.mp hb
    rw [if_neg (by rw [e2]; exact m100_4 o (by omega)), if_neg (by rw [e2]; exact q_ne hoc (by omega) (by omega)), if_neg (by rw [e2]; exact nI_pos (by omega))]
    refine obs (cranes_x hR) ?_
    rw [if_neg (by rw [e2]; exact q_nle ho (by omega))]
    refine obs (lhasT hR hc hfu) ?_
    rw [if_pos hbb.1]
    refine obs (crane5 hR hc hfu) ?_
    have h50 : F M c 5 = 0 := by
      obtain ⟨a, b', p, g, h0, ha, h1, hb1, hb5, h2, hp, h5, hgb, hh⟩ := hG.2.2 c hc
      have := ons_0 h5 (by omega) hbb.2.1
      rw [h5, this]
      rfl
    rw [if_pos h50]
    exact h3
theorem iss_143 (hR : Rel R M n) (hG : GD M n) (hfu : 12 < fu) : fL_isSound_J143 fu R = some true := by
  have hn := hR.1
  unfold fL_isSound_J143
  refine obs (cycle_x hR hfu) ?_
  refine lp_go (body := fL_isSound_L151 fu R (msk (fun c => cyc M n c 4 c) n)) (fun i => nI i) n _ (by omega) (fun i hi => iss_151 hR hG hi hfu) ?_
  unfold fL_isSound_L151
  refine obs (cranes_x hR) ?_
  rw [if_pos (q_le (Nat.le_refl n) (by omega))]
theorem iss_125 (hR : Rel R M n) (hG : GD M n) (hfu : 12 < fu) (ov : Bool) (hN : ov = false → NC M n) : fL_isSound_J125 fu R (msk (cnf M n) 6) ov = some true := by
  have hn := hR.1
  unfold fL_isSound_J125
  refine obs (conflicts_x hR hfu) ?_
  rw [if_pos rfl, iss_143 hR hG hfu]
  cases ov with
  | true =>
    split <;> rfl
  | false =>
    have e : msk (cnf M n) 6 = 0 := by
      have : msk (cnf M n) 6 = msk (fun _ => false) 6 := msk_congr (fun z hz => NC_cnf hn (hN rfl) hz)
      rw [this]
      decide
    rw [if_pos e]
theorem iss_20 (hR : Rel R M n) (hfu : 12 < fu) {z : Nat} (hz : z < 6) (y2 : Int32) (hc : c < n) : fL_isSound_L20 fu R y2 (nI z) (msk (fun c => occ M c z) n) (nI c) = some (.inl (nI (c + 1))) := by
  have hn := hR.1
  have b1 := msk_tst (fun c => occ M c z) (n := n) (z := c) (by omega) hc
  have b2 := msk_tst (occ M c) (n := 6) (z := z) (by decide) hz
  unfold fL_isSound_L20
  refine obs (cranes_x hR) ?_
  rw [if_neg (q_nle hc (by omega))]
  by_cases q : occ M c z = true
  · rw [if_pos (b1.mpr q)]
    refine obs (crane8 hR hc hfu) ?_
    rw [if_pos (b2.mpr q)]
    refine obs (arc_x hR hc hz) ?_
    have hA := occ_hasA q
    have : ¬ F M c (9 + 2 * z) = (-100 : Int32) := by
      intro e
      unfold hasA at hA
      rw [if_pos e] at hA
      cases hA
    rw [if_neg this, nI_1]
  · rw [if_neg (fun e => q (b1.mp e))]
    refine obs (crane8 hR hc hfu) ?_
    rw [if_neg (fun e => q (b2.mp e)), nI_1]
theorem iss_4 (hR : Rel R M n) (hfu : 12 < fu) (ov : Bool) {z : Nat} (hz : z < 6) : fL_isSound_L4 fu R ov (msk (cnf M n) z, nI z) = some (.inl (msk (cnf M n) (z + 1), nI (z + 1))) := by
  have hn := hR.1
  unfold fL_isSound_L4
  dsimp only
  rw [if_neg (show ¬ (6 : Int32) ≤ nI z from q_nle (a := 6) hz (by decide))]
  refine obs (occupants_x hR hfu hz) ?_
  refine lp_go (body := fL_isSound_L20 fu R (msk (cnf M n) z) (nI z) (msk (fun c => occ M c z) n)) (fun i => nI i) n _ (by omega) (fun i hi => iss_20 hR hfu hz _ hi) ?_
  unfold fL_isSound_L20
  refine obs (cranes_x hR) ?_
  rw [if_pos (q_le (Nat.le_refl n) (by omega)), msk_step _ z hz, nI_1]
  unfold cnf
  by_cases q : (msk (fun c => occ M c z) n &&& (msk (fun c => occ M c z) n - (1 : Int32))) = (0 : Int32)
  · rw [if_pos q, if_neg (by rw [decide_eq_true_eq]; exact fun h => h q), Int32.or_zero]
  · rw [if_neg q, if_pos (decide_eq_true q)]
theorem isSound_x (hR : Rel R M n) (hG : GD M n) (hfu : 12 < fu) (ov : Bool) (hN : ov = false → NC M n) : fL_isSound fu R ov = some true := by
  unfold fL_isSound
  refine lp_go (body := fL_isSound_L4 fu R ov) (fun i => (msk (cnf M n) i, nI i)) 6 _ (by omega) (fun i hi => iss_4 hR hfu ov hi) ?_
  unfold fL_isSound_L4
  dsimp only
  rw [if_pos (show (6 : Int32) ≤ nI 6 from q_le (a := 6) (by decide) (by decide))]
  refine obs (iss_125 hR hG hfu ov hN) ?_
  rfl
end ISS
