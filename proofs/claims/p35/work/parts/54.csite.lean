/-! the class's small functions, on a row that holds the reference's state -/
theorem cont_hasA {M : Nat → Int32} {c z : Nat} {a : Int32} (h : cont M c z a = true) : hasA M c z = true := by
  unfold cont at h
  unfold hasA
  split
  · rename_i q
    rw [if_pos q] at h
    exact h
  · rfl
theorem lowf_none {P : Nat → Bool} {d : Int32} : ∀ {n : Nat}, (∀ j, j < n → ¬ P j = true) → lowf P n d = d := by
  intro n
  induction n with
  | zero => intro _; rfl
  | succ n ih =>
    intro h
    unfold lowf
    rw [if_neg (h n (by omega))]
    exact ih (fun j hj => h j (by omega))
theorem lowf_first {P : Nat → Bool} {k : Nat} (hk : P k = true) (h : ∀ j, j < k → ¬ P j = true) : ∀ {n : Nat} {d : Int32}, k < n → lowf P n d = nI k := by
  intro n
  induction n with
  | zero => intro d hd; omega
  | succ n ih =>
    intro d hd
    unfold lowf
    by_cases e : k = n
    · subst e
      rw [if_pos hk]
      exact lowf_none h
    · exact ih (by omega)
section CS
variable {X M : Nat → Int32} {n c : Nat}
theorem cHasTarget_e (hR : Rel X M n) (hc : c < n) : fX1_hasTarget X (nI c) = some (hasT M c) := by
  unfold fX1_hasTarget hasT
  simp only [rd16 (hR.lt hc), hR.f hc 3 (by decide), Option.bind_some]
  split <;> rfl
theorem cIsOnStep_e (hR : Rel X M n) (hc : c < n) : fX1_isOnStep X (nI c) = some (ons M c) := by
  unfold fX1_isOnStep ons
  simp only [rd24 (hR.lt hc), hR.f hc 5 (by decide), Option.bind_some]
  split <;> rfl
theorem cIsLeft_e (hR : Rel X M n) (hc : c < n) : fX1_isLeft X (nI c) = some (lft M c) := by
  unfold fX1_isLeft lft
  simp only [rd32 (hR.lt hc), hR.f hc 7 (by decide), Option.bind_some]
  split <;> rfl
theorem cNextAngle_e (hR : Rel X M n) (hc : c < n) : fX1_nextAngle X (nI c) = some (nxt M c) := by
  unfold fX1_nextAngle nxt
  simp only [rd4 (hR.lt hc), rd20 (hR.lt hc), hR.f hc 0 (by decide), hR.f hc 4 (by decide), Option.bind_some]
theorem cZonesAt_e (hR : Rel X M n) (hc : c < n) (a : Int32) {fu : Nat} (hfu : 12 < fu) : fX1_zonesAtAngle fu X (nI c) a = some (msk (fun z => cont M c z a) 6) := by
  refine lp_go (body := fX1_zonesAtAngle_L5 X (nI c) a) (fun i => (msk (fun z => cont M c z a) i, nI i)) 6 _ (by omega) ?_ ?_
  · intro i hi
    unfold fX1_zonesAtAngle_L5
    simp only [if_neg (show ¬ (6 : Int32) ≤ nI i from q_nle (a := 6) hi (by decide)), rd44 (hR.lt hc) hi, rd68 (hR.lt hc) hi, hR.f hc (9 + 2 * i) (by omega), hR.f hc (9 + 2 * i + 1) (by omega), Option.bind_some, nI_1, msk_step _ i hi, cont]
    split
    · simp
    · split <;> simp
  · unfold fX1_zonesAtAngle_L5
    simp only [if_pos (show (6 : Int32) ≤ nI 6 from q_le (a := 6) (by decide) (by decide))]
theorem cZonesWith_e (hR : Rel X M n) (hc : c < n) {fu : Nat} (hfu : 12 < fu) : fX1_zonesWithArc fu X (nI c) = some (msk (hasA M c) 6) := by
  refine lp_go (body := fX1_zonesWithArc_L4 X (nI c)) (fun i => (msk (hasA M c) i, nI i)) 6 _ (by omega) ?_ ?_
  · intro i hi
    unfold fX1_zonesWithArc_L4
    simp only [if_neg (show ¬ (6 : Int32) ≤ nI i from q_nle (a := 6) hi (by decide)), rd44 (hR.lt hc) hi, hR.f hc (9 + 2 * i) (by omega), Option.bind_some, nI_1, msk_step _ i hi, hasA]
    split <;> simp
  · unfold fX1_zonesWithArc_L4
    simp only [if_pos (show (6 : Int32) ≤ nI 6 from q_le (a := 6) (by decide) (by decide))]
theorem cZonesOcc_e (hR : Rel X M n) (hc : c < n) {fu : Nat} (hfu : 12 < fu) : fX1_zonesOccupiedBy fu X (nI c) = some (msk (occ M c) 6) := by
  unfold fX1_zonesOccupiedBy
  simp only [cIsLeft_e hR hc, cZonesWith_e hR hc hfu, rd4 (hR.lt hc), hR.f hc 0 (by decide), cZonesAt_e hR hc _ hfu, cIsOnStep_e hR hc, cNextAngle_e hR hc, Option.bind_some, msk_or]
  by_cases h1 : lft M c = true
  · rw [if_pos h1]
    congr 1
    apply msk_congr
    intro z hz
    unfold occ
    rw [h1]
    by_cases h2 : hasA M c z = true
    · simp [h2]
    · have q1 : ¬ cont M c z (F M c 0) = true := fun h => h2 (cont_hasA h)
      have q2 : ¬ cont M c z (nxt M c) = true := fun h => h2 (cont_hasA h)
      simp [h2, q1, q2]
  · rw [if_neg h1]
    by_cases h2 : ons M c = true
    · rw [if_pos h2]
      congr 1
      apply msk_congr
      intro z hz
      unfold occ
      simp [h1, h2]
    · rw [if_neg h2]
      congr 1
      apply msk_congr
      intro z hz
      unfold occ
      simp [h1, h2]
theorem iwP_iff {o : Nat} : iwP M c o = true ↔ o ≠ c ∧ ∃ z, z < 6 ∧ cont M c z (nxt M c) = true ∧ occ M o z = true := by
  unfold iwP
  rw [anyN_iff]
  constructor
  · rintro ⟨z, hz, h⟩
    simp only [Bool.and_eq_true, decide_eq_true_eq] at h
    exact ⟨h.1.1, z, hz, h.1.2, h.2⟩
  · rintro ⟨h1, z, hz, h2, h3⟩
    exact ⟨z, hz, by simp [h1, h2, h3]⟩
theorem cBlock_loop (hR : Rel X M n) (hc : c < n) {fu : Nat} (hfu : 12 < fu) : ∀ (d k m : Nat), k + d = n → d < m → (∀ j, j < k → ¬ iwP M c j = true) → lp (fX1_blockerOf_L32 fu X (nI c) (msk (fun z => cont M c z (nxt M c)) 6)) m (nI k) = some (inw M n c) := by
  have hn4 := hR.1
  intro d
  induction d with
  | zero =>
    intro k m hk hm hj
    obtain ⟨m, rfl⟩ : ∃ q, m = q + 1 := ⟨m - 1, by omega⟩
    have hk : k = n := by omega
    subst hk
    refine lp_inr ?_
    unfold fX1_blockerOf_L32
    simp only [rdk2, hR.2.1, Option.bind_some, if_pos (q_le (Nat.le_refl k) (show k < 2 ^ 31 by omega))]
    unfold inw
    rw [lowf_none hj]
  | succ d ih =>
    intro k m hk hm hj
    obtain ⟨m, rfl⟩ : ∃ q, m = q + 1 := ⟨m - 1, by omega⟩
    have hkn : k < n := by omega
    by_cases hP : iwP M c k = true
    · refine lp_inr ?_
      have h1 := iwP_iff.mp hP
      have hne : ¬ nI k = nI c := q_ne h1.1 (by omega) (by omega)
      have hand : ¬ (msk (occ M k) 6 &&& msk (fun z => cont M c z (nxt M c)) 6) = 0 := by
        rw [msk_and0 _ _ 6 6 (by decide) (by decide)]
        intro h
        obtain ⟨z, hz, h2, h3⟩ := h1.2
        rw [h z hz hz h3] at h2
        exact absurd h2 (by decide)
      unfold fX1_blockerOf_L32
      simp only [rdk2, hR.2.1, Option.bind_some, if_neg (q_nle hkn (show n < 2 ^ 31 by omega)), if_neg hne, cZonesOcc_e hR hkn hfu, if_neg hand]
      unfold inw
      rw [lowf_first hP hj hkn]
    · have hb : fX1_blockerOf_L32 fu X (nI c) (msk (fun z => cont M c z (nxt M c)) 6) (nI k) = some (.inl (nI (k + 1))) := by
        unfold fX1_blockerOf_L32
        simp only [rdk2, hR.2.1, Option.bind_some, if_neg (q_nle hkn (show n < 2 ^ 31 by omega)), cZonesOcc_e hR hkn hfu, nI_1]
        by_cases e : k = c
        · rw [if_pos (by rw [e])]
        · rw [if_neg (q_ne e (by omega) (by omega))]
          have hand : (msk (occ M k) 6 &&& msk (fun z => cont M c z (nxt M c)) 6) = 0 := by
            rw [msk_and0 _ _ 6 6 (by decide) (by decide)]
            intro z hz _ h3
            cases h2 : cont M c z (nxt M c) with
            | false => rfl
            | true => exact absurd (iwP_iff.mpr ⟨e, z, hz, h2, h3⟩) hP
          rw [if_pos hand]
      rw [lp_inl hb]
      refine ih (k + 1) m (by omega) (by omega) (fun j hj2 => ?_)
      by_cases e : j = k
      · rw [e]; exact hP
      · exact hj j (by omega)
theorem cBlockerOf_e (hR : Rel X M n) (hc : c < n) {fu : Nat} (hfu : 12 < fu) : fX1_blockerOf fu X (nI c) = some (if blk M n c = true then inw M n c else (-100 : Int32)) := by
  have h := cBlock_loop hR hc hfu n 0 fu (by omega) (by have := hR.1; omega) (fun j hj => by omega)
  have h : lp (fX1_blockerOf_L32 fu X (nI c) (msk (fun z => cont M c z (nxt M c)) 6)) fu (0 : Int32) = some (inw M n c) := h
  unfold fX1_blockerOf blk
  simp only [cHasTarget_e hR hc, cIsOnStep_e hR hc, cNextAngle_e hR hc, cZonesAt_e hR hc _ hfu, Option.bind_some, h]
  by_cases h1 : hasT M c = true <;> by_cases h2 : ons M c = true <;> by_cases h3 : inw M n c = -100 <;> simp [h1, h2, h3]
theorem blk_iff : blk M n c = true ↔ hasT M c = true ∧ ons M c = false ∧ inw M n c ≠ -100 := by
  unfold blk
  simp
theorem cDrop_e (hR : Rel X M n) (hc : c < n) : ∃ X', fX1_dropTarget X (nI c) = some (F M c 3, X') ∧ Rel X' (noT M c) n := by
  refine ⟨_, ?_, (hR.set (k := 3) (-100) hc (by decide)).set (k := 4) 0 hc (by decide)⟩
  unfold fX1_dropTarget
  simp only [rd16 (hR.lt hc), wr16 (hR.lt hc), wr20 (hR.lt hc), hR.f hc 3 (by decide), Option.bind_some]
theorem cEndStep_e (hR : Rel X M n) (hc : c < n) : ∃ X', fX1_endStep X (nI c) = some X' ∧ Rel X' (stp M c) n := by
  have hc4 := hR.lt hc
  have h1 := hR.set (k := 0) (nxt M c) hc (by decide)
  have h2 := h1.set (k := 5) 0 hc (by decide)
  have e8 : F (setF (setF M c 0 (nxt M c)) c 5 0) c 8 = F M c 8 := by rw [F_nk (by decide), F_nk (by decide)]
  have h3 := h2.set (k := 8) (F M c 8 + 1) hc (by decide)
  have e0 : F (stp3 M c) c 0 = nxt M c := by unfold stp3; rw [F_nk (by decide), F_nk (by decide), F_same]
  have e3 : F (stp3 M c) c 3 = F M c 3 := by unfold stp3; rw [F_nk (by decide), F_nk (by decide), F_nk (by decide)]
  have h3 : Rel _ (stp3 M c) n := h3
  obtain ⟨X', d1, d2⟩ := cDrop_e h3 hc
  unfold fX1_endStep stp
  simp only [cNextAngle_e hR hc, wr4 hc4, wr24 hc4, wr40 hc4, rd40 hc4, rd4 hc4, rd16 hc4, h2.f hc 8 (by decide), e8, h3.f hc 0 (by decide), h3.f hc 3 (by decide), e0, e3, d1, Option.bind_some]
  split
  · exact ⟨X', rfl, d2⟩
  · exact ⟨_, rfl, h3⟩
end CS

