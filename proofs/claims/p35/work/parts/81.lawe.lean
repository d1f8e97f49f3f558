/-! p35: the law from its first row -/
section LWE
variable {R R2 T HR M TB TC TW TG : Nat → Int32} {HS HN LN : Int32} {n c fu t L : Nat} {xs : Nat → Int32}
theorem GC_new {a b p : Nat} (ha : a < 36) (hb : 1 ≤ b) (hb5 : b ≤ 5) (hp : p ≤ 9) : GC (newC M n (nI a) (nI b) (nI p)) n :=
  ⟨a, b, p, 0, newC_F 0 (by decide), ha, newC_F 1 (by decide), hb, hb5, newC_F 2 (by decide), hp, newC_F 5 (by decide), by omega, Or.inl ⟨newC_F 3 (by decide), newC_F 4 (by decide), rfl, Or.inl (newC_F 7 (by decide))⟩⟩
/-- what holds while the cranes come, one after the other -/
def AD (M : Nat → Int32) (n : Nat) : Prop := GD M n ∧ NA M n ∧ M 3 = 0 ∧ M 0 = nI 0
theorem AD_new (h : AD M n) {a b p : Nat} (ha : a < 36) (hb : 1 ≤ b) (hb5 : b ≤ 5) (hp : p ≤ 9) : AD (newC M n (nI a) (nI b) (nI p)) (n + 1) := by
  obtain ⟨hG, hA, h3, h0⟩ := h
  refine ⟨⟨by rw [newC_lo (by decide) (by decide)]; exact hG.1, by rw [newC_lo (by decide) (by decide)]; exact hG.2.1, fun d hd => ?_⟩, fun d hd z hz => ?_, by rw [newC_lo (by decide) (by decide)]; exact h3, by rw [newC_lo (by decide) (by decide)]; exact h0⟩
  · by_cases e : d = n
    · subst e
      exact GC_new ha hb hb5 hp
    · exact GC_congr (hG.2.2 d (by omega)) (fun k hk _ _ _ => newC_Fne e hk)
  · by_cases e : d = n
    · subst e
      rw [newC_F _ (by omega), if_neg (show ¬ 9 + 2 * z = 0 by omega), if_neg (show ¬ 9 + 2 * z = 1 by omega), if_neg (show ¬ 9 + 2 * z = 2 by omega), if_pos (Or.inl (by omega))]
    · rw [newC_Fne e (by omega)]
      exact hA d (by omega) z hz
theorem NA_NC (h : NA M n) : NC M n := by
  intro z hz c hc d hd h1 h2
  have := occ_hasA h1
  unfold hasA at this
  rw [if_pos (h c hc z hz)] at this
  cases this
theorem law_77 (hR : Rel R M c) (hH : HI HS HN) (hL : L ≤ 260) (h : AD M c) (hc : c < n) (hn : n ≤ 4) (y2 : Int32) : ∃ (R' HR' M' : Nat → Int32) (HS' HN' : Int32), fL_law_L77 fu L xs R2 y2 (nI n) (R, HR, HS, HN, nI c) = some (.inl (R', HR', HS', HN', nI (c + 1))) ∧ Rel R' M' (c + 1) ∧ HI HS' HN' ∧ AD M' (c + 1) := by
  obtain ⟨v, hv⟩ := cell_e (xs := xs) hL (k := 1 + c) (by omega)
  obtain ⟨a, ha, e1⟩ := low_e v (m := 36) (by decide) (by decide)
  obtain ⟨b, hb, e2⟩ := low_e (jshr v (6 : Int32)) (m := 5) (by decide) (by decide)
  obtain ⟨p, hp, e3⟩ := low_e (jshr v (9 : Int32)) (m := 10) (by decide) (by decide)
  have q1 : (1 : Int32) + nI c = nI (1 + c) := nI_add 1 c
  have q2 : (1 : Int32) + nI b = nI (1 + b) := nI_add 1 b
  obtain ⟨R', HR', HS', HN', k1, k2, k3⟩ := addCrane_x (HR := HR) hR hH (show c < 4 by omega) ha (b := 1 + b) (by omega) (by omega) (show p ≤ 9 by omega)
  refine ⟨R', HR', _, HS', HN', ?_, k3, k2, AD_new h ha (by omega) (by omega) (by omega)⟩
  unfold fL_law_L77
  dsimp only
  rw [if_neg (q_nle hc (by omega)), q1]
  refine obs hv ?_
  refine obs e1 ?_
  refine obs e2 ?_
  refine obs e3 ?_
  rw [q2]
  refine obs k1 ?_
  dsimp only
  rw [if_pos rfl, nI_1]
theorem cmd_e (hR : Rel R M 0) (hfu : 2000 < fu) : ∃ (p : Int32) (x1 x2 x3 : Nat → Int32) (z : Int32), fX3_command fu R HR HS HN TB 0 TC TW TG = some ((-103 : Int32), R, HR, HS, HN, p, x1, x2, x3, z) := by
  have hs : fX2_skipBlanks fu TB 0 (0 : Int32) = some (0 : Int32) := by
    obtain ⟨f, rfl⟩ : ∃ f, fu = f + 1 := ⟨fu - 1, by omega⟩
    unfold fX2_skipBlanks
    refine lp_inr ?_
    unfold fX2_skipBlanks_L0
    rw [if_pos (show (0 : Int32) ≤ 0 by decide)]
  have hb : fX2_byteHere TB 0 (0 : Int32) = some (-1 : Int32) := by
    unfold fX2_byteHere
    rw [if_pos (show (0 : Int32) ≤ 0 by decide)]
  have hh : fX1_hasCrane R ((-1 : Int32) - (48 : Int32)) = some false := by
    rw [cHasCrane_e hR]
    rfl
  have hc : fX2_readCommand fu TB 0 (0 : Int32) TC TW TG R (0 : Int32) = some ((0 : Int32), (0 : Int32), TC, TW, TG) := by
    unfold fX2_readCommand
    refine obs hs ?_
    refine obs hb ?_
    refine obs hh ?_
    rfl
  have hr : fX2_read fu TB 0 TC TW TG R = some ((0 : Int32), (0 : Int32), TC, TW, TG, (0 : Int32)) := by
    obtain ⟨f, rfl⟩ : ∃ f, fu = f + 1 := ⟨fu - 1, by omega⟩
    unfold fX2_read
    refine lp_inr ?_
    unfold fX2_read_L12
    dsimp only
    rw [if_neg (show ¬ (20 : Int32) ≤ 0 by decide)]
    refine obs hc ?_
    dsimp only
    rw [if_neg (show ¬ (0 : Int32) = -100 by decide)]
  refine ⟨0, TC, TW, TG, 0, ?_⟩
  unfold fX3_command
  refine obs hr ?_
  dsimp only
  rw [if_neg (show ¬ (0 : Int32) = -100 by decide)]
theorem crane_none (hR : Rel R M 0) : fX3_crane fu R (0 : Int32) (0 : Int32) = some (-101 : Int32) := by
  unfold fX3_crane
  refine obs (show fX1_hasCrane R (0 : Int32) = some false by rw [cHasCrane_e hR]; rfl) ?_
  rfl
theorem law_14 (hR : Rel R M 0) (h : AD M 0) (hfu : 2000 < fu) (hL : L ≤ 260) (R2 HR : Nat → Int32) (y2 : Int32) : fL_law_J14 fu L xs R R2 HR 0 0 TB 0 TC TW TG y2 = some true := by
  have hH0 : HI 0 0 := ⟨0, 0, by decide, by decide, rfl, rfl⟩
  have hcn : msk (cnf M 0) 6 = 0 := by
    have : msk (cnf M 0) 6 = msk (fun _ => false) 6 := msk_congr (fun z hz => NC_cnf (by decide) (NA_NC h.2.1) hz)
    rw [this]
    decide
  obtain ⟨T', hd⟩ := allDone_e (T := R2) hfu hR (GD_wf h.1)
  have hz : vf M 0 (gAll 0) 0 1000 = 0 := by
    have hg : ∀ X : Nat → Int32, gAll 0 X = false := by
      intro X
      cases q : gAll 0 X with
      | false => rfl
      | true =>
        obtain ⟨c, hc, -⟩ := gAll_iff.mp q
        omega
    rcases vf_spec M 0 (gAll 0) 1000 0 with ⟨k, -, -, k3, -, k5⟩ | ⟨-, k2⟩
    · by_cases e : k = 0
      · rw [k3, e]
        rfl
      · have := k5 0 (by omega) (by omega)
        rw [hg] at this
        cases this
    · have := k2 0 (by omega) (by omega)
      rw [hg] at this
      cases this
  rw [hz] at hd
  obtain ⟨p, x1, x2, x3, z, hcm⟩ := cmd_e (HR := HR) (HS := 0) (HN := 0) (TB := TB) (TC := TC) (TW := TW) (TG := TG) hR hfu
  obtain ⟨q, hq, e1⟩ := low_e y2 (m := 3) (by decide) (by decide)
  have e2 : (2 : Int32) + nI q = nI (2 + q) := nI_add 2 q
  obtain ⟨r, h1, h2⟩ := lp_ex (body := fL_law_L77 fu L xs T' y2 (nI (2 + q))) (fun i (s : (Nat → Int32) × (Nat → Int32) × Int32 × Int32 × Int32) => (∃ M', Rel s.1 M' i ∧ AD M' i) ∧ HI s.2.2.1 s.2.2.2.1 ∧ s.2.2.2.2 = nI i) (fun r => r = true) (2 + q)
    (by
      rintro i hi ⟨Y, H3, a, b, t3⟩ ⟨⟨M', q1, q2⟩, q3, q4⟩
      dsimp only at q1 q3 q4
      subst q4
      obtain ⟨R', HR', M'', HS', HN', z1, z2, z3, z4⟩ := law_77 (R2 := T') (HR := H3) (fu := fu) (xs := xs) q1 q3 hL q2 hi (show 2 + q ≤ 4 by omega) y2
      exact ⟨_, z1, ⟨M'', z2, z4⟩, z3, rfl⟩)
    (by
      rintro ⟨Y, H3, a, b, t3⟩ ⟨⟨M', q1, q2⟩, q3, q4⟩
      dsimp only at q1 q3 q4
      subst q4
      refine ⟨true, ?_, rfl⟩
      unfold fL_law_L77
      dsimp only
      rw [if_pos (q_le (Nat.le_refl (2 + q)) (by omega))]
      have hO : OK Y M' (2 + q) 0 := ⟨q1, q2.1, NA_NC q2.2.1, q2.2.2.1, q2.2.2.2⟩
      refine obs (law_138 (T := T') (HR := H3) (xs := xs) (show 2 + q ≤ 4 by omega) hO q3 hfu hL rfl y2 (nI (2 + q)) (fun R1 T1 HR1 M1 HS1 HN1 t1 z1 z2 z3 => law_tail z1 z2 (by omega) hfu z3 T1 y2)) ?_
      rfl)
    (2 + q) fu 0 (R, HR, (0 : Int32), (0 : Int32), (0 : Int32)) (by omega) (by omega) ⟨⟨M, hR, h⟩, hH0, rfl⟩
  subst h2
  unfold fL_law_J14
  refine obs (undo_0 R HR) ?_
  dsimp only
  rw [if_pos rfl]
  refine obs (cycle_x hR (by omega)) ?_
  rw [if_pos (show msk (fun c => cyc M 0 c 4 c) 0 = (0 : Int32) from rfl)]
  refine obs (conflicts_x hR (by omega)) ?_
  rw [hcn, if_pos rfl]
  refine obs hd ?_
  dsimp only
  rw [if_pos rfl]
  refine obs hcm ?_
  dsimp only
  rw [if_pos rfl]
  refine obs (crane_none hR) ?_
  rw [if_pos rfl]
  refine obs e1 ?_
  rw [e2]
  exact h1
def R00 (i : Nat) : Nat → Int32 := fun j => if 44 ≤ j ∧ j < 44 + i then -100 else 0
theorem init_e {fu : Nat} (hfu : 100 < fu) : fX1_init fu = some (R00 48) := by
  have h0 : (fun _ => 0 : Nat → Int32) = R00 0 := by
    funext j
    unfold R00
    rw [if_neg (by omega)]
  unfold fX1_init
  rw [h0]
  refine lp_go (body := fX1_init_L16) (fun i => (R00 i, nI (44 + i))) 48 _ (by omega) ?_ ?_
  · intro i hi
    have e : upd (R00 i) (44 + i) (-100) = R00 (i + 1) := by
      funext j
      unfold R00
      by_cases z : j = 44 + i
      · subst z
        rw [upd_eq, if_pos (by omega)]
      · rw [upd_ne z]
        by_cases y : 44 ≤ j ∧ j < 44 + i
        · rw [if_pos y, if_pos (by omega)]
        · rw [if_neg y, if_neg (by omega)]
    unfold fX1_init_L16
    simp only [if_neg (show ¬ (92 : Int32) ≤ nI (44 + i) from q_nle (a := 92) (by omega) (by decide)), wr_n (f := R00 i) (v := -100) (show 44 + i < 132 by omega) (by decide), Option.bind_some, nI_1, e]
    rfl
  · unfold fX1_init_L16
    exact if_pos (show (92 : Int32) ≤ nI (44 + 48) by decide)
theorem Rel_0 : Rel (R00 48) (fun _ => 0) 0 := by
  refine ⟨by decide, ?_, rfl, ?_, ?_, ?_, ?_, ?_, ?_⟩
  · exact if_neg (by omega)
  · exact if_neg (by omega)
  · exact if_neg (by omega)
  · exact if_neg (by omega)
  · intro j hj
    exact if_neg (by omega)
  · intro c hc
    exact absurd hc (by omega)
  · intro c _ hc4 k hk4 hk
    unfold R00
    have hix : ∀ c, c < 4 → ∀ k, k < 21 → 4 ≤ k → ((44 ≤ ix c k ∧ ix c k < 44 + 48) ↔ ¬ k < 9) := by decide +kernel
    by_cases h9 : k < 9
    · rw [if_pos h9, if_neg (fun z => absurd h9 ((hix c hc4 k hk hk4).mp z))]
    · rw [if_neg h9, if_pos ((hix c hc4 k hk hk4).mpr h9)]
theorem AD_0 : AD (fun _ => 0) 0 := ⟨⟨⟨0, by decide, rfl⟩, ⟨0, by decide, rfl⟩, fun c hc => absurd hc (by omega)⟩, fun c hc => absurd hc (by omega), rfl, rfl⟩
theorem law_pure (L : Nat) (xs : Nat → Int32) (hL : L ≤ 260) : ∃ (fu : Nat) (R0 : Nat → Int32), fX1_init fu = some R0 ∧ fL_law fu L xs R0 R0 (fun _ => 0) 0 0 (fun _ => 0) 0 (fun _ => 0) (fun _ => 0) (fun _ => 0) = some true := by
  refine ⟨3000, R00 48, init_e (by decide), ?_⟩
  obtain ⟨v, hv⟩ := cell_e (xs := xs) hL (k := 0) (by decide)
  have hv : fL_cell L xs (0 : Int32) = some v := hv
  unfold fL_law
  refine obs hv ?_
  exact law_14 Rel_0 AD_0 (by decide) hL (R00 48) (fun _ => 0) v
end LWE
