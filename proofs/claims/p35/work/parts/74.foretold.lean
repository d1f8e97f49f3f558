/-! p35: the law's isForetold answers true, and leaves the state as it was -/
section IFT
variable {R R2 HR M T : Nat → Int32} {HS HN : Int32} {n c fu : Nat}
def dN (M : Nat → Int32) (n c : Nat) : Int32 := vf M n (gOne c) 0 1000
theorem dN_spec (M : Nat → Int32) (n c : Nat) : (∃ k, k ≤ 1000 ∧ dN M n c = nI k ∧ hasT (itM M n k) c = false ∧ ∀ j, j < k → hasT (itM M n j) c = true) ∨ (dN M n c = -100 ∧ ∀ j, j ≤ 1000 → hasT (itM M n j) c = true) := by
  rcases vf_spec M n (gOne c) 1000 0 with ⟨k, -, k2, k3, k4, k5⟩ | ⟨k1, k2⟩
  · exact Or.inl ⟨k, by omega, k3, k4, fun j hj => k5 j (by omega) hj⟩
  · exact Or.inr ⟨k1, fun j hj => k2 j (by omega) (by omega)⟩
theorem nI_k100 {k : Nat} (h : k ≤ 1000) : ¬ nI k = (-100 : Int32) := by
  intro e
  have h1 : ¬ nI k < 0 := nI_pos (by omega)
  rw [e] at h1
  exact h1 (by decide)
/-- what is gathered of the first c cranes -/
def AL (M : Nat → Int32) (n c : Nat) (y : Int32) : Prop := (y = -100 ∧ ∃ j, j < c ∧ dN M n j = -100) ∨ ∃ m, m ≤ 1000 ∧ y = nI m ∧ (∀ j, j < c → ∃ k, k ≤ m ∧ dN M n j = nI k) ∧ (m = 0 ∨ ∃ j, j < c ∧ dN M n j = nI m)
theorem AL_0 : AL M n 0 0 := Or.inr ⟨0, by decide, rfl, fun j hj => absurd hj (by omega), Or.inl rfl⟩
theorem AL_none {y : Int32} (h : dN M n c = -100) : AL M n (c + 1) (-100) := Or.inl ⟨rfl, c, by omega, h⟩
theorem AL_keep (h : AL M n c (-100)) : AL M n (c + 1) (-100) := by
  rcases h with ⟨-, j, hj, e⟩ | ⟨m, hm, e, -⟩
  · exact Or.inl ⟨rfl, j, by omega, e⟩
  · exact absurd e.symm (nI_k100 hm)
theorem AL_step {m k : Nat} (h : AL M n c (nI m)) (hm : m ≤ 1000) (hk : k ≤ 1000) (e : dN M n c = nI k) : AL M n (c + 1) (nI (max m k)) := by
  rcases h with ⟨q, -⟩ | ⟨m', hm', q, h1, h2⟩
  · exact absurd q (nI_k100 hm)
  · have : m = m' := (nI_eq (by omega) (by omega)).mp q
    subst this
    refine Or.inr ⟨max m k, by omega, rfl, fun j hj => ?_, ?_⟩
    · by_cases ej : j = c
      · subst ej
        exact ⟨k, by omega, e⟩
      · obtain ⟨k', k1, k2⟩ := h1 j (by omega)
        exact ⟨k', by omega, k2⟩
    · by_cases hc : k ≤ m
      · rw [Nat.max_eq_left hc]
        rcases h2 with z | ⟨j, hj, z⟩
        · exact Or.inl z
        · exact Or.inr ⟨j, by omega, z⟩
      · rw [Nat.max_eq_right (by omega)]
        exact Or.inr ⟨c, by omega, e⟩
theorem gAll_iff {T : Nat → Int32} : gAll n T = true ↔ ∃ c, c < n ∧ hasT T c = true := by
  unfold gAll
  rw [decide_eq_true_eq, cnt_0]
  constructor
  · intro h
    apply Classical.byContradiction
    intro q
    exact h (fun i hi hp => q ⟨i, hi, hp⟩)
  · rintro ⟨c, hc, hp⟩ h
    exact h c hc hp
theorem AL_all {y : Int32} (hG : GD M n) (h : AL M n n y) : vf M n (gAll n) 0 1000 = y := by
  rcases h with ⟨rfl, j, hj, e⟩ | ⟨m, hm, rfl, h1, h2⟩
  · have hT : ∀ i, i ≤ 1000 → gAll n (itM M n i) = true := by
      intro i hi
      rcases dN_spec M n j with ⟨k, k1, k2, -⟩ | ⟨-, k2⟩
      · exact absurd (k2.symm.trans e) (nI_k100 k1)
      · exact gAll_iff.mpr ⟨j, hj, k2 i hi⟩
    rcases vf_spec M n (gAll n) 1000 0 with ⟨k, -, k2, k3, k4, k5⟩ | ⟨k1, -⟩
    · rw [hT k (by omega)] at k4
      cases k4
    · exact k1
  · have hoff : gAll n (itM M n m) = false := by
      cases hq : gAll n (itM M n m) with
      | false => rfl
      | true =>
        obtain ⟨j, hj, hp⟩ := gAll_iff.mp hq
        obtain ⟨k, k1, k2⟩ := h1 j hj
        rcases dN_spec M n j with ⟨k', q1, q2, q3, -⟩ | ⟨q1, -⟩
        · have : k = k' := (nI_eq (by omega) (by omega)).mp (k2.symm.trans q2)
          subst this
          have := it_mono hG hj (i := k) (m - k) q3
          rw [show k + (m - k) = m by omega, hp] at this
          cases this
        · exact absurd (k2.symm.trans q1) (nI_k100 (by omega))
    have hon : ∀ i, i < m → gAll n (itM M n i) = true := by
      intro i hi
      rcases h2 with z | ⟨j, hj, z⟩
      · omega
      · rcases dN_spec M n j with ⟨k', q1, q2, q3, q4⟩ | ⟨q1, -⟩
        · have : m = k' := (nI_eq (by omega) (by omega)).mp (z.symm.trans q2)
          subst this
          exact gAll_iff.mpr ⟨j, hj, q4 i hi⟩
        · exact absurd (z.symm.trans q1) (nI_k100 hm)
    rcases vf_spec M n (gAll n) 1000 0 with ⟨k, -, k2, k3, k4, k5⟩ | ⟨-, k2⟩
    · rw [k3]
      have : k = m := by
        rcases Nat.lt_trichotomy k m with z | z | z
        · rw [hon k z] at k4
          cases k4
        · exact z
        · rw [k5 m (by omega) z] at hoff
          cases hoff
      rw [this]
    · rw [k2 m (by omega) (by omega)] at hoff
      cases hoff
theorem add_sub_l (x y : Int32) : x + y - x = y := by rw [Int32.add_comm, Int32.add_sub_cancel]
theorem ift_65 (hR : Rel R M n) (hG : GD M n) (hc : c < n) (hfu : 2000 < fu) {k : Nat} (hk : k ≤ 1000) (e : dN M n c = nI k) (y4 : Int32) : ∃ T', fL_isForetold_J65 fu R T HR HS HN y4 (nI k) (nI c) = some (.inl (T', y4, nI (c + 1))) := by
  have hW := GD_wf hG
  rcases dN_spec M n c with ⟨k', q1, q2, q3, q4⟩ | ⟨q1, -⟩
  · have : k = k' := (nI_eq (by omega) (by omega)).mp (e.symm.trans q2)
    subst this
    by_cases h0 : k = 0
    · subst h0
      have hT : hasT M c = false := q3
      refine ⟨T, ?_⟩
      unfold fL_isForetold_J65
      rw [if_pos (show nI 0 = (0 : Int32) from rfl)]
      refine obs (lhasT hR hc (by omega)) ?_
      rw [hT, if_neg (show ¬ (1 : Int32) = bI false by decide), if_pos (show nI 0 ≤ (0 : Int32) by decide), nI_1]
    · have hT : hasT M c = true := q4 0 (by omega)
      obtain ⟨N0, hN0, eN, hNz⟩ := need_e (hG.2.2 c hc)
      obtain ⟨w, N, hw, hN, e6, eNk, hs⟩ := it_need hG hc eN hN0 k
      have hz : N = 0 := by
        obtain ⟨N', hN', eN', hz⟩ := need_e ((GD_it hG k).2.2 c hc)
        have e1 : N = N' := (nI_eq (by omega) (by omega)).mp (eNk.symm.trans eN')
        have : ¬ N' ≠ 0 := fun z => by rw [hz.mpr z] at q3; cases q3
        omega
      have hsum := hs q4
      obtain ⟨T', hw2⟩ := waits_x (T := T) hR hW hc hfu (w := k) (by omega) hk
      rw [e6, add_sub_l] at hw2
      refine ⟨T', ?_⟩
      unfold fL_isForetold_J65
      rw [if_neg (show ¬ nI k = (0 : Int32) from q_ne (b := 0) h0 (by omega) (by decide))]
      refine obs (lhasT hR hc (by omega)) ?_
      rw [hT, if_neg (show ¬ (0 : Int32) = bI true by decide), if_neg (show ¬ nI k ≤ (0 : Int32) from q_nle (b := 0) (by omega) (by omega))]
      refine obs (needs_x hR hW hc) ?_
      refine obs hw2 ?_
      dsimp only
      rw [eN, nI_add, if_pos (by congr 1; omega), nI_1]
  · exact absurd (e.symm.trans q1) (nI_k100 hk)
theorem ift_11 (hR : Rel R M n) (hG : GD M n) (hc : c < n) (hfu : 2000 < fu) (y1 : Int32) (y2 : Int64) {y : Int32} (h : AL M n c y) : ∃ T' y', fL_isForetold_L11 fu R HR HS HN y1 y2 (T, y, nI c) = some (.inl (T', y', nI (c + 1))) ∧ AL M n (c + 1) y' := by
  have hn := hR.1
  obtain ⟨T1, hd⟩ := done_x (T := T) hR (GD_wf hG) hc hfu
  have hd : fX3_done fu R T (nI c) = some (dN M n c, T1) := hd
  have head : fL_isForetold_L11 fu R HR HS HN y1 y2 (T, y, nI c) = (if dN M n c = (-100 : Int32) then (some (.inl (T1, (-100 : Int32), nI c + (1 : Int32)))) else (if y = (-100 : Int32) then (fL_isForetold_J65 fu R T1 HR HS HN y (dN M n c) (nI c)) else (if dN M n c ≤ y then (fL_isForetold_J65 fu R T1 HR HS HN y (dN M n c) (nI c)) else (fL_isForetold_J65 fu R T1 HR HS HN (dN M n c) (dN M n c) (nI c))))) := by
    unfold fL_isForetold_L11
    dsimp only
    refine obs (cranes_x hR) ?_
    rw [if_neg (q_nle hc (by omega))]
    refine obs hd ?_
    rfl
  rw [head]
  rcases dN_spec M n c with ⟨k, k1, k2, -, -⟩ | ⟨k1, -⟩
  · rw [if_neg (by rw [k2]; exact nI_k100 k1)]
    rcases h with ⟨rfl, j, hj, e⟩ | ⟨m, hm, rfl, h1, h2⟩
    · rw [if_pos rfl, k2]
      obtain ⟨T', hT'⟩ := ift_65 (T := T1) (HR := HR) (HS := HS) (HN := HN) hR hG hc hfu k1 k2 (-100)
      exact ⟨T', -100, hT', Or.inl ⟨rfl, j, by omega, e⟩⟩
    · have hA : AL M n (c + 1) (nI (max m k)) := AL_step (Or.inr ⟨m, hm, rfl, h1, h2⟩) hm k1 k2
      rw [if_neg (nI_k100 hm), k2]
      by_cases hle : k ≤ m
      · rw [if_pos (q_le hle (by omega))]
        obtain ⟨T', hT'⟩ := ift_65 (T := T1) (HR := HR) (HS := HS) (HN := HN) hR hG hc hfu k1 k2 (nI m)
        rw [Nat.max_eq_left hle] at hA
        exact ⟨T', nI m, hT', hA⟩
      · rw [if_neg (q_nle (by omega) (by omega))]
        obtain ⟨T', hT'⟩ := ift_65 (T := T1) (HR := HR) (HS := HS) (HN := HN) hR hG hc hfu k1 k2 (nI k)
        rw [Nat.max_eq_right (by omega)] at hA
        exact ⟨T', nI k, hT', hA⟩
  · rw [if_pos k1]
    exact ⟨T1, -100, by rw [nI_1], Or.inl ⟨rfl, c, by omega, k1⟩⟩
theorem ift_315 (hK : KP HR HS HN M n) (hW : WF M n) (hfu : 50 < fu) : ∃ (R' : Nat → Int32) (HS' HN' : Int32), fL_isForetold_J315 fu R T HR HS HN (nI c) (dgst M n) = some (.inl (R', T, HR, HS', HN', nI (c + 1))) ∧ Rel R' M n ∧ HI HS' HN' := by
  obtain ⟨v, R', HS', HN', u1, u2, u3, u4⟩ := undo_n (R := R) hK
  refine ⟨R', HS', HN', ?_, u3, u4⟩
  unfold fL_isForetold_J315
  refine obs u1 ?_
  dsimp only
  rw [if_neg u2]
  refine obs (digest_x u3 hW hfu) ?_
  rw [cmp_self, if_pos rfl, nI_1]
theorem ift_131 (hR : Rel R M n) (hG : GD M n) (hH : HI HS HN) (hc : c < n) (hfu : 2000 < fu) {w t : Nat} (hw1 : 1 ≤ w) (hw : w ≤ 200) (ht : M 0 = nI t) (htw : t + w ≤ 100000) : ∃ (R' T' HR' : Nat → Int32) (HS' HN' : Int32), fL_isForetold_L131 fu (nI w) (dgst M n) (R, T, HR, HS, HN, nI c) = some (.inl (R', T', HR', HS', HN', nI (c + 1))) ∧ Rel R' M n ∧ HI HS' HN' := by
  have hn := hR.1
  have hW := GD_wf hG
  obtain ⟨N0, hN0, eN, -⟩ := need_e (hG.2.2 c hc)
  obtain ⟨wa, N, hwa, hN, e6, -, -⟩ := it_need hG hc eN hN0 w
  obtain ⟨ks, hks, e8, e7, e0⟩ := it_steps hG hc w
  obtain ⟨T1, hwt⟩ := waits_x (T := T) hR hW hc hfu hw1 (show w ≤ 1000 by omega)
  rw [e6, add_sub_l] at hwt
  obtain ⟨T2, hd⟩ := done_x (T := T1) hR hW hc hfu
  have hd : fX3_done fu R T1 (nI c) = some (dN M n c, T2) := hd
  obtain ⟨R', HR', HS', HN', t1, t2, t3⟩ := tick_x (HR := HR) hR hW hH (show 200 < fu by omega) hw1 hw ht htw
  have h315 : ∃ (R'' : Nat → Int32) (HS'' HN'' : Int32), fL_isForetold_J315 fu R' T2 HR' HS' HN' (nI c) (dgst M n) = some (.inl (R'', T2, HR', HS'', HN'', nI (c + 1))) ∧ Rel R'' M n ∧ HI HS'' HN'' := ift_315 t2 hW (by omega)
  obtain ⟨R'', HS'', HN'', u1, u2, u3⟩ := h315
  refine ⟨R'', T2, HR', HS'', HN'', ?_, u2, u3⟩
  have h277 : fL_isForetold_J277 fu R' T2 HR' HS' HN' (F M c 8) (F M c 0) (nI c) (dgst M n) = some (.inl (R'', T2, HR', HS'', HN'', nI (c + 1))) := by
    unfold fL_isForetold_J277
    refine obs (crane7 t3 hc (by omega)) ?_
    rw [e7]
    by_cases q7 : F M c 7 = (0 : Int32)
    · rw [if_pos q7]
      refine obs (crane9 t3 hc (by omega)) ?_
      rw [e8]
      by_cases q8 : F M c 8 + nI ks = F M c 8
      · rw [if_pos q8]
        refine obs (crane0 t3 hc (by omega)) ?_
        have hk0 : ks = 0 := by
          have : nI ks = nI 0 := by
            have h := add_sub_l (F M c 8) (nI ks)
            rw [q8, Int32.sub_self] at h
            exact h.symm
          exact (nI_eq (by omega) (by omega)).mp this
        rw [if_pos (e0 hk0 (no_L q7))]
        exact u1
      · rw [if_neg q8]
        exact u1
    · rw [if_neg q7]
      exact u1
  unfold fL_isForetold_L131
  dsimp only
  refine obs (cranes_x hR) ?_
  rw [if_neg (q_nle hc (by omega))]
  refine obs hwt ?_
  refine obs (crane6 hR hc (by omega)) ?_
  refine obs hd ?_
  refine obs (crane0 hR hc (by omega)) ?_
  refine obs (crane9 hR hc (by omega)) ?_
  refine obs (time_x hR) ?_
  dsimp only
  rw [if_neg (nI_pos (by omega)), if_neg (q_nlt hwa (by omega))]
  refine obs t1 ?_
  dsimp only
  rw [ht, nI_add, if_pos rfl]
  refine obs (crane6 t3 hc (by omega)) ?_
  rw [e6, if_pos rfl]
  have h9 : (F M c 8 + nI ks) - F M c 8 ≤ nI w := by
    rw [add_sub_l]
    exact q_le hks (by omega)
  rcases dN_spec M n c with ⟨k, k1, k2, k3, k4⟩ | ⟨k1, k2⟩
  · rw [if_neg (by rw [k2]; exact nI_k100 k1), k2]
    by_cases hkw : k ≤ w
    · have hT : hasT (itM M n w) c = false := by
        have := it_mono hG hc (i := k) (w - k) k3
        rw [show k + (w - k) = w by omega] at this
        exact this
      rw [if_pos (q_le hkw (by omega))]
      refine obs (lhasT t3 hc (by omega)) ?_
      rw [hT, if_pos (show (0 : Int32) = bI false by decide)]
      refine obs (crane9 t3 hc (by omega)) ?_
      rw [e8, if_pos h9]
      exact h277
    · have hT : hasT (itM M n w) c = true := k4 w (by omega)
      rw [if_neg (q_nle (by omega) (by omega))]
      refine obs (lhasT t3 hc (by omega)) ?_
      rw [hT, if_pos (show (1 : Int32) = bI true by decide)]
      refine obs (crane9 t3 hc (by omega)) ?_
      rw [e8, if_pos h9]
      exact h277
  · have hT : hasT (itM M n w) c = true := k2 w (by omega)
    rw [if_pos k1]
    refine obs (lhasT t3 hc (by omega)) ?_
    rw [hT, if_pos (show (1 : Int32) = bI true by decide)]
    refine obs (crane9 t3 hc (by omega)) ?_
    rw [e8, if_pos h9]
    exact h277
/-- what isForetold leaves: true, and the state as it was -/
def FT (M : Nat → Int32) (n : Nat) (r : Bool × (Nat → Int32) × (Nat → Int32) × (Nat → Int32) × Int32 × Int32) : Prop := ∃ (R' T' HR' : Nat → Int32) (HS' HN' : Int32), r = (true, R', T', HR', HS', HN') ∧ Rel R' M n ∧ HI HS' HN'
theorem ift_117 (hR : Rel R M n) (hG : GD M n) (hH : HI HS HN) (hfu : 2000 < fu) {y : Int32} (h : AL M n n y) {w t : Nat} (hw1 : 1 ≤ w) (hw : w ≤ 200) (ht : M 0 = nI t) (htw : t + w ≤ 100000) : ∃ r, fL_isForetold_J117 fu R T HR HS HN y (dgst M n) (nI w) = some r ∧ FT M n r := by
  have hn := hR.1
  obtain ⟨T1, ha⟩ := allDone_e (T := T) hfu hR (GD_wf hG)
  have hL := lp_ex (body := fL_isForetold_L131 fu (nI w) (dgst M n)) (fun i (s : (Nat → Int32) × (Nat → Int32) × (Nat → Int32) × Int32 × Int32 × Int32) => Rel s.1 M n ∧ HI s.2.2.2.1 s.2.2.2.2.1 ∧ s.2.2.2.2.2 = nI i) (FT M n) n
    (by
      rintro i hi ⟨Y, T3, H3, a, b, t3⟩ ⟨q1, q2, q3⟩
      dsimp only at q1 q2 q3
      subst q3
      obtain ⟨R', T', HR', HS', HN', z1, z2, z3⟩ := ift_131 (T := T3) (HR := H3) q1 hG q2 hi hfu hw1 hw ht htw
      exact ⟨_, z1, z2, z3, rfl⟩)
    (by
      rintro ⟨Y, T3, H3, a, b, t3⟩ ⟨q1, q2, q3⟩
      dsimp only at q1 q2 q3
      subst q3
      refine ⟨(true, Y, T3, H3, a, b), ?_, Y, T3, H3, a, b, rfl, q1, q2⟩
      unfold fL_isForetold_L131
      dsimp only
      refine obs (cranes_x q1) ?_
      rw [if_pos (q_le (Nat.le_refl n) (by omega))])
    n fu 0 (R, T1, HR, HS, HN, (0 : Int32)) (by omega) (by omega) ⟨hR, hH, rfl⟩
  obtain ⟨r, h1, h2⟩ := hL
  refine ⟨r, ?_, h2⟩
  unfold fL_isForetold_J117
  refine obs ha ?_
  dsimp only
  rw [if_pos (AL_all hG h)]
  exact h1
theorem isForetold_x (hR : Rel R M n) (hG : GD M n) (hH : HI HS HN) (hfu : 2000 < fu) {w t : Nat} (hw1 : 1 ≤ w) (hw : w ≤ 200) (ht : M 0 = nI t) (htw : t + w ≤ 100000) : ∃ r, fL_isForetold fu R T HR HS HN (nI w) = some r ∧ FT M n r := by
  have hn := hR.1
  have hL := lp_ex (body := fL_isForetold_L11 fu R HR HS HN (nI w) (dgst M n)) (fun i (s : (Nat → Int32) × Int32 × Int32) => AL M n i s.2.1 ∧ s.2.2 = nI i) (FT M n) n
    (by
      rintro i hi ⟨T3, y, t3⟩ ⟨q1, q2⟩
      dsimp only at q1 q2
      subst q2
      obtain ⟨T', y', z1, z2⟩ := ift_11 (T := T3) (HR := HR) (HS := HS) (HN := HN) hR hG hi hfu (nI w) (dgst M n) q1
      exact ⟨_, z1, z2, rfl⟩)
    (by
      rintro ⟨T3, y, t3⟩ ⟨q1, q2⟩
      dsimp only at q1 q2
      subst q2
      obtain ⟨r, z1, z2⟩ := ift_117 (T := T3) (HR := HR) hR hG hH hfu q1 hw1 hw ht htw
      refine ⟨r, ?_, z2⟩
      unfold fL_isForetold_L11
      dsimp only
      refine obs (cranes_x hR) ?_
      rw [if_pos (q_le (Nat.le_refl n) (by omega))]
      refine obs z1 ?_
      rfl)
    n fu 0 (T, (0 : Int32), (0 : Int32)) (by omega) (by omega) ⟨AL_0, rfl⟩
  obtain ⟨r, h1, h2⟩ := hL
  refine ⟨r, ?_, h2⟩
  unfold fL_isForetold
  refine obs (digest_x hR (GD_wf hG) (by omega)) ?_
  exact h1
end IFT
